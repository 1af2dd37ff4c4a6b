theorem dX10_init_0 : decode cX10_init 0 = .ok (.aload_n 0, 1) := by decide +kernel
theorem dX10_init_1 : decode cX10_init 1 = .ok (.invokespecial 1, 3) := by decide +kernel
theorem dX10_init_4 : decode cX10_init 4 = .ok (.aload_n 0, 1) := by decide +kernel
theorem dX10_init_5 : decode cX10_init 5 = .ok (.bipush 24, 2) := by decide +kernel
theorem dX10_init_7 : decode cX10_init 7 = .ok (.newarray .int, 2) := by decide +kernel
theorem dX10_init_9 : decode cX10_init 9 = .ok (.dup, 1) := by decide +kernel
theorem dX10_init_10 : decode cX10_init 10 = .ok (.iconst 0, 1) := by decide +kernel
theorem dX10_init_11 : decode cX10_init 11 = .ok (.iconst (-1), 1) := by decide +kernel
theorem dX10_init_12 : decode cX10_init 12 = .ok (.iastore, 1) := by decide +kernel
theorem dX10_init_13 : decode cX10_init 13 = .ok (.dup, 1) := by decide +kernel
theorem dX10_init_14 : decode cX10_init 14 = .ok (.iconst 1, 1) := by decide +kernel
theorem dX10_init_15 : decode cX10_init 15 = .ok (.iconst 0, 1) := by decide +kernel
theorem dX10_init_16 : decode cX10_init 16 = .ok (.iastore, 1) := by decide +kernel
theorem dX10_init_17 : decode cX10_init 17 = .ok (.dup, 1) := by decide +kernel
theorem dX10_init_18 : decode cX10_init 18 = .ok (.iconst 2, 1) := by decide +kernel
theorem dX10_init_19 : decode cX10_init 19 = .ok (.iconst 1, 1) := by decide +kernel
theorem dX10_init_20 : decode cX10_init 20 = .ok (.iastore, 1) := by decide +kernel
theorem dX10_init_21 : decode cX10_init 21 = .ok (.dup, 1) := by decide +kernel
theorem dX10_init_22 : decode cX10_init 22 = .ok (.iconst 3, 1) := by decide +kernel
theorem dX10_init_23 : decode cX10_init 23 = .ok (.iconst 1, 1) := by decide +kernel
theorem dX10_init_24 : decode cX10_init 24 = .ok (.iastore, 1) := by decide +kernel
theorem dX10_init_25 : decode cX10_init 25 = .ok (.dup, 1) := by decide +kernel
theorem dX10_init_26 : decode cX10_init 26 = .ok (.iconst 4, 1) := by decide +kernel
theorem dX10_init_27 : decode cX10_init 27 = .ok (.iconst 3, 1) := by decide +kernel
theorem dX10_init_28 : decode cX10_init 28 = .ok (.iastore, 1) := by decide +kernel
theorem dX10_init_29 : decode cX10_init 29 = .ok (.dup, 1) := by decide +kernel
theorem dX10_init_30 : decode cX10_init 30 = .ok (.iconst 5, 1) := by decide +kernel
theorem dX10_init_31 : decode cX10_init 31 = .ok (.iconst 3, 1) := by decide +kernel
theorem dX10_init_32 : decode cX10_init 32 = .ok (.iastore, 1) := by decide +kernel
theorem dX10_init_33 : decode cX10_init 33 = .ok (.dup, 1) := by decide +kernel
theorem dX10_init_34 : decode cX10_init 34 = .ok (.bipush 6, 2) := by decide +kernel
theorem dX10_init_36 : decode cX10_init 36 = .ok (.iconst 1, 1) := by decide +kernel
theorem dX10_init_37 : decode cX10_init 37 = .ok (.iastore, 1) := by decide +kernel
theorem dX10_init_38 : decode cX10_init 38 = .ok (.dup, 1) := by decide +kernel
theorem dX10_init_39 : decode cX10_init 39 = .ok (.bipush 7, 2) := by decide +kernel
theorem dX10_init_41 : decode cX10_init 41 = .ok (.bipush 6, 2) := by decide +kernel
theorem dX10_init_43 : decode cX10_init 43 = .ok (.iastore, 1) := by decide +kernel
theorem dX10_init_44 : decode cX10_init 44 = .ok (.dup, 1) := by decide +kernel
theorem dX10_init_45 : decode cX10_init 45 = .ok (.bipush 8, 2) := by decide +kernel
theorem dX10_init_47 : decode cX10_init 47 = .ok (.bipush 6, 2) := by decide +kernel
theorem dX10_init_49 : decode cX10_init 49 = .ok (.iastore, 1) := by decide +kernel
theorem dX10_init_50 : decode cX10_init 50 = .ok (.dup, 1) := by decide +kernel
theorem dX10_init_51 : decode cX10_init 51 = .ok (.bipush 9, 2) := by decide +kernel
theorem dX10_init_53 : decode cX10_init 53 = .ok (.iconst 0, 1) := by decide +kernel
theorem dX10_init_54 : decode cX10_init 54 = .ok (.iastore, 1) := by decide +kernel
theorem dX10_init_55 : decode cX10_init 55 = .ok (.dup, 1) := by decide +kernel
theorem dX10_init_56 : decode cX10_init 56 = .ok (.bipush 10, 2) := by decide +kernel
theorem dX10_init_58 : decode cX10_init 58 = .ok (.bipush 9, 2) := by decide +kernel
theorem dX10_init_60 : decode cX10_init 60 = .ok (.iastore, 1) := by decide +kernel
theorem dX10_init_61 : decode cX10_init 61 = .ok (.dup, 1) := by decide +kernel
theorem dX10_init_62 : decode cX10_init 62 = .ok (.bipush 11, 2) := by decide +kernel
theorem dX10_init_64 : decode cX10_init 64 = .ok (.bipush 10, 2) := by decide +kernel
theorem dX10_init_66 : decode cX10_init 66 = .ok (.iastore, 1) := by decide +kernel
theorem dX10_init_67 : decode cX10_init 67 = .ok (.dup, 1) := by decide +kernel
theorem dX10_init_68 : decode cX10_init 68 = .ok (.bipush 12, 2) := by decide +kernel
theorem dX10_init_70 : decode cX10_init 70 = .ok (.bipush 10, 2) := by decide +kernel
theorem dX10_init_72 : decode cX10_init 72 = .ok (.iastore, 1) := by decide +kernel
theorem dX10_init_73 : decode cX10_init 73 = .ok (.dup, 1) := by decide +kernel
theorem dX10_init_74 : decode cX10_init 74 = .ok (.bipush 13, 2) := by decide +kernel
theorem dX10_init_76 : decode cX10_init 76 = .ok (.bipush 12, 2) := by decide +kernel
theorem dX10_init_78 : decode cX10_init 78 = .ok (.iastore, 1) := by decide +kernel
theorem dX10_init_79 : decode cX10_init 79 = .ok (.dup, 1) := by decide +kernel
theorem dX10_init_80 : decode cX10_init 80 = .ok (.bipush 14, 2) := by decide +kernel
theorem dX10_init_82 : decode cX10_init 82 = .ok (.bipush 9, 2) := by decide +kernel
theorem dX10_init_84 : decode cX10_init 84 = .ok (.iastore, 1) := by decide +kernel
theorem dX10_init_85 : decode cX10_init 85 = .ok (.dup, 1) := by decide +kernel
theorem dX10_init_86 : decode cX10_init 86 = .ok (.bipush 15, 2) := by decide +kernel
theorem dX10_init_88 : decode cX10_init 88 = .ok (.bipush 14, 2) := by decide +kernel
theorem dX10_init_90 : decode cX10_init 90 = .ok (.iastore, 1) := by decide +kernel
theorem dX10_init_91 : decode cX10_init 91 = .ok (.dup, 1) := by decide +kernel
theorem dX10_init_92 : decode cX10_init 92 = .ok (.bipush 16, 2) := by decide +kernel
theorem dX10_init_94 : decode cX10_init 94 = .ok (.bipush 14, 2) := by decide +kernel
theorem dX10_init_96 : decode cX10_init 96 = .ok (.iastore, 1) := by decide +kernel
theorem dX10_init_97 : decode cX10_init 97 = .ok (.dup, 1) := by decide +kernel
theorem dX10_init_98 : decode cX10_init 98 = .ok (.bipush 17, 2) := by decide +kernel
theorem dX10_init_100 : decode cX10_init 100 = .ok (.bipush 9, 2) := by decide +kernel
theorem dX10_init_102 : decode cX10_init 102 = .ok (.iastore, 1) := by decide +kernel
theorem dX10_init_103 : decode cX10_init 103 = .ok (.dup, 1) := by decide +kernel
theorem dX10_init_104 : decode cX10_init 104 = .ok (.bipush 18, 2) := by decide +kernel
theorem dX10_init_106 : decode cX10_init 106 = .ok (.bipush 17, 2) := by decide +kernel
theorem dX10_init_108 : decode cX10_init 108 = .ok (.iastore, 1) := by decide +kernel
theorem dX10_init_109 : decode cX10_init 109 = .ok (.dup, 1) := by decide +kernel
theorem dX10_init_110 : decode cX10_init 110 = .ok (.bipush 19, 2) := by decide +kernel
theorem dX10_init_112 : decode cX10_init 112 = .ok (.bipush 17, 2) := by decide +kernel
theorem dX10_init_114 : decode cX10_init 114 = .ok (.iastore, 1) := by decide +kernel
theorem dX10_init_115 : decode cX10_init 115 = .ok (.dup, 1) := by decide +kernel
theorem dX10_init_116 : decode cX10_init 116 = .ok (.bipush 20, 2) := by decide +kernel
theorem dX10_init_118 : decode cX10_init 118 = .ok (.iconst 0, 1) := by decide +kernel
theorem dX10_init_119 : decode cX10_init 119 = .ok (.iastore, 1) := by decide +kernel
theorem dX10_init_120 : decode cX10_init 120 = .ok (.dup, 1) := by decide +kernel
theorem dX10_init_121 : decode cX10_init 121 = .ok (.bipush 21, 2) := by decide +kernel
theorem dX10_init_123 : decode cX10_init 123 = .ok (.bipush 20, 2) := by decide +kernel
theorem dX10_init_125 : decode cX10_init 125 = .ok (.iastore, 1) := by decide +kernel
theorem dX10_init_126 : decode cX10_init 126 = .ok (.dup, 1) := by decide +kernel
theorem dX10_init_127 : decode cX10_init 127 = .ok (.bipush 22, 2) := by decide +kernel
theorem dX10_init_129 : decode cX10_init 129 = .ok (.bipush 20, 2) := by decide +kernel
theorem dX10_init_131 : decode cX10_init 131 = .ok (.iastore, 1) := by decide +kernel
theorem dX10_init_132 : decode cX10_init 132 = .ok (.dup, 1) := by decide +kernel
theorem dX10_init_133 : decode cX10_init 133 = .ok (.bipush 23, 2) := by decide +kernel
theorem dX10_init_135 : decode cX10_init 135 = .ok (.bipush 21, 2) := by decide +kernel
theorem dX10_init_137 : decode cX10_init 137 = .ok (.iastore, 1) := by decide +kernel
theorem dX10_init_138 : decode cX10_init 138 = .ok (.putfield 7, 3) := by decide +kernel
theorem dX10_init_141 : decode cX10_init 141 = .ok (.aload_n 0, 1) := by decide +kernel
theorem dX10_init_142 : decode cX10_init 142 = .ok (.bipush 7, 2) := by decide +kernel
theorem dX10_init_144 : decode cX10_init 144 = .ok (.newarray .int, 2) := by decide +kernel
theorem dX10_init_146 : decode cX10_init 146 = .ok (.dup, 1) := by decide +kernel
theorem dX10_init_147 : decode cX10_init 147 = .ok (.iconst 0, 1) := by decide +kernel
theorem dX10_init_148 : decode cX10_init 148 = .ok (.iconst 0, 1) := by decide +kernel
theorem dX10_init_149 : decode cX10_init 149 = .ok (.iastore, 1) := by decide +kernel
theorem dX10_init_150 : decode cX10_init 150 = .ok (.dup, 1) := by decide +kernel
theorem dX10_init_151 : decode cX10_init 151 = .ok (.iconst 1, 1) := by decide +kernel
theorem dX10_init_152 : decode cX10_init 152 = .ok (.iconst 1, 1) := by decide +kernel
theorem dX10_init_153 : decode cX10_init 153 = .ok (.iastore, 1) := by decide +kernel
theorem dX10_init_154 : decode cX10_init 154 = .ok (.dup, 1) := by decide +kernel
theorem dX10_init_155 : decode cX10_init 155 = .ok (.iconst 2, 1) := by decide +kernel
theorem dX10_init_156 : decode cX10_init 156 = .ok (.iconst 3, 1) := by decide +kernel
theorem dX10_init_157 : decode cX10_init 157 = .ok (.iastore, 1) := by decide +kernel
theorem dX10_init_158 : decode cX10_init 158 = .ok (.dup, 1) := by decide +kernel
theorem dX10_init_159 : decode cX10_init 159 = .ok (.iconst 3, 1) := by decide +kernel
theorem dX10_init_160 : decode cX10_init 160 = .ok (.bipush 9, 2) := by decide +kernel
theorem dX10_init_162 : decode cX10_init 162 = .ok (.iastore, 1) := by decide +kernel
theorem dX10_init_163 : decode cX10_init 163 = .ok (.dup, 1) := by decide +kernel
theorem dX10_init_164 : decode cX10_init 164 = .ok (.iconst 4, 1) := by decide +kernel
theorem dX10_init_165 : decode cX10_init 165 = .ok (.bipush 10, 2) := by decide +kernel
theorem dX10_init_167 : decode cX10_init 167 = .ok (.iastore, 1) := by decide +kernel
theorem dX10_init_168 : decode cX10_init 168 = .ok (.dup, 1) := by decide +kernel
theorem dX10_init_169 : decode cX10_init 169 = .ok (.iconst 5, 1) := by decide +kernel
theorem dX10_init_170 : decode cX10_init 170 = .ok (.bipush 17, 2) := by decide +kernel
theorem dX10_init_172 : decode cX10_init 172 = .ok (.iastore, 1) := by decide +kernel
theorem dX10_init_173 : decode cX10_init 173 = .ok (.dup, 1) := by decide +kernel
theorem dX10_init_174 : decode cX10_init 174 = .ok (.bipush 6, 2) := by decide +kernel
theorem dX10_init_176 : decode cX10_init 176 = .ok (.bipush 20, 2) := by decide +kernel
theorem dX10_init_178 : decode cX10_init 178 = .ok (.iastore, 1) := by decide +kernel
theorem dX10_init_179 : decode cX10_init 179 = .ok (.putfield 13, 3) := by decide +kernel
theorem dX10_init_182 : decode cX10_init 182 = .ok (.aload_n 0, 1) := by decide +kernel
theorem dX10_init_183 : decode cX10_init 183 = .ok (.bipush 36, 2) := by decide +kernel
theorem dX10_init_185 : decode cX10_init 185 = .ok (.newarray .int, 2) := by decide +kernel
theorem dX10_init_187 : decode cX10_init 187 = .ok (.dup, 1) := by decide +kernel
theorem dX10_init_188 : decode cX10_init 188 = .ok (.iconst 0, 1) := by decide +kernel
theorem dX10_init_189 : decode cX10_init 189 = .ok (.iconst 1, 1) := by decide +kernel
theorem dX10_init_190 : decode cX10_init 190 = .ok (.iastore, 1) := by decide +kernel
theorem dX10_init_191 : decode cX10_init 191 = .ok (.dup, 1) := by decide +kernel
theorem dX10_init_192 : decode cX10_init 192 = .ok (.iconst 1, 1) := by decide +kernel
theorem dX10_init_193 : decode cX10_init 193 = .ok (.bipush 41, 2) := by decide +kernel
theorem dX10_init_195 : decode cX10_init 195 = .ok (.iastore, 1) := by decide +kernel
theorem dX10_init_196 : decode cX10_init 196 = .ok (.dup, 1) := by decide +kernel
theorem dX10_init_197 : decode cX10_init 197 = .ok (.iconst 2, 1) := by decide +kernel
theorem dX10_init_198 : decode cX10_init 198 = .ok (.iconst 3, 1) := by decide +kernel
theorem dX10_init_199 : decode cX10_init 199 = .ok (.iastore, 1) := by decide +kernel
theorem dX10_init_200 : decode cX10_init 200 = .ok (.dup, 1) := by decide +kernel
theorem dX10_init_201 : decode cX10_init 201 = .ok (.iconst 3, 1) := by decide +kernel
theorem dX10_init_202 : decode cX10_init 202 = .ok (.bipush 43, 2) := by decide +kernel
theorem dX10_init_204 : decode cX10_init 204 = .ok (.iastore, 1) := by decide +kernel
theorem dX10_init_205 : decode cX10_init 205 = .ok (.dup, 1) := by decide +kernel
theorem dX10_init_206 : decode cX10_init 206 = .ok (.iconst 4, 1) := by decide +kernel
theorem dX10_init_207 : decode cX10_init 207 = .ok (.iconst 5, 1) := by decide +kernel
theorem dX10_init_208 : decode cX10_init 208 = .ok (.iastore, 1) := by decide +kernel
theorem dX10_init_209 : decode cX10_init 209 = .ok (.dup, 1) := by decide +kernel
theorem dX10_init_210 : decode cX10_init 210 = .ok (.iconst 5, 1) := by decide +kernel
theorem dX10_init_211 : decode cX10_init 211 = .ok (.bipush 46, 2) := by decide +kernel
theorem dX10_init_213 : decode cX10_init 213 = .ok (.iastore, 1) := by decide +kernel
theorem dX10_init_214 : decode cX10_init 214 = .ok (.dup, 1) := by decide +kernel
theorem dX10_init_215 : decode cX10_init 215 = .ok (.bipush 6, 2) := by decide +kernel
theorem dX10_init_217 : decode cX10_init 217 = .ok (.bipush 6, 2) := by decide +kernel
theorem dX10_init_219 : decode cX10_init 219 = .ok (.iastore, 1) := by decide +kernel
theorem dX10_init_220 : decode cX10_init 220 = .ok (.dup, 1) := by decide +kernel
theorem dX10_init_221 : decode cX10_init 221 = .ok (.bipush 7, 2) := by decide +kernel
theorem dX10_init_223 : decode cX10_init 223 = .ok (.bipush 44, 2) := by decide +kernel
theorem dX10_init_225 : decode cX10_init 225 = .ok (.iastore, 1) := by decide +kernel
theorem dX10_init_226 : decode cX10_init 226 = .ok (.dup, 1) := by decide +kernel
theorem dX10_init_227 : decode cX10_init 227 = .ok (.bipush 8, 2) := by decide +kernel
theorem dX10_init_229 : decode cX10_init 229 = .ok (.bipush 8, 2) := by decide +kernel
theorem dX10_init_231 : decode cX10_init 231 = .ok (.iastore, 1) := by decide +kernel
theorem dX10_init_232 : decode cX10_init 232 = .ok (.dup, 1) := by decide +kernel
theorem dX10_init_233 : decode cX10_init 233 = .ok (.bipush 9, 2) := by decide +kernel
theorem dX10_init_235 : decode cX10_init 235 = .ok (.bipush 47, 2) := by decide +kernel
theorem dX10_init_237 : decode cX10_init 237 = .ok (.iastore, 1) := by decide +kernel
theorem dX10_init_238 : decode cX10_init 238 = .ok (.dup, 1) := by decide +kernel
theorem dX10_init_239 : decode cX10_init 239 = .ok (.bipush 10, 2) := by decide +kernel
theorem dX10_init_241 : decode cX10_init 241 = .ok (.bipush 10, 2) := by decide +kernel
theorem dX10_init_243 : decode cX10_init 243 = .ok (.iastore, 1) := by decide +kernel
theorem dX10_init_244 : decode cX10_init 244 = .ok (.dup, 1) := by decide +kernel
theorem dX10_init_245 : decode cX10_init 245 = .ok (.bipush 11, 2) := by decide +kernel
theorem dX10_init_247 : decode cX10_init 247 = .ok (.bipush 41, 2) := by decide +kernel
theorem dX10_init_249 : decode cX10_init 249 = .ok (.iastore, 1) := by decide +kernel
theorem dX10_init_250 : decode cX10_init 250 = .ok (.dup, 1) := by decide +kernel
theorem dX10_init_251 : decode cX10_init 251 = .ok (.bipush 12, 2) := by decide +kernel
theorem dX10_init_253 : decode cX10_init 253 = .ok (.bipush 10, 2) := by decide +kernel
theorem dX10_init_255 : decode cX10_init 255 = .ok (.iastore, 1) := by decide +kernel
theorem dX10_init_256 : decode cX10_init 256 = .ok (.dup, 1) := by decide +kernel
theorem dX10_init_257 : decode cX10_init 257 = .ok (.bipush 13, 2) := by decide +kernel
theorem dX10_init_259 : decode cX10_init 259 = .ok (.bipush 43, 2) := by decide +kernel
theorem dX10_init_261 : decode cX10_init 261 = .ok (.iastore, 1) := by decide +kernel
theorem dX10_init_262 : decode cX10_init 262 = .ok (.dup, 1) := by decide +kernel
theorem dX10_init_263 : decode cX10_init 263 = .ok (.bipush 14, 2) := by decide +kernel
theorem dX10_init_265 : decode cX10_init 265 = .ok (.bipush 13, 2) := by decide +kernel
theorem dX10_init_267 : decode cX10_init 267 = .ok (.iastore, 1) := by decide +kernel
theorem dX10_init_268 : decode cX10_init 268 = .ok (.dup, 1) := by decide +kernel
theorem dX10_init_269 : decode cX10_init 269 = .ok (.bipush 15, 2) := by decide +kernel
theorem dX10_init_271 : decode cX10_init 271 = .ok (.bipush 44, 2) := by decide +kernel
theorem dX10_init_273 : decode cX10_init 273 = .ok (.iastore, 1) := by decide +kernel
theorem dX10_init_274 : decode cX10_init 274 = .ok (.dup, 1) := by decide +kernel
theorem dX10_init_275 : decode cX10_init 275 = .ok (.bipush 16, 2) := by decide +kernel
theorem dX10_init_277 : decode cX10_init 277 = .ok (.bipush 14, 2) := by decide +kernel
theorem dX10_init_279 : decode cX10_init 279 = .ok (.iastore, 1) := by decide +kernel
theorem dX10_init_280 : decode cX10_init 280 = .ok (.dup, 1) := by decide +kernel
theorem dX10_init_281 : decode cX10_init 281 = .ok (.bipush 17, 2) := by decide +kernel
theorem dX10_init_283 : decode cX10_init 283 = .ok (.bipush 42, 2) := by decide +kernel
theorem dX10_init_285 : decode cX10_init 285 = .ok (.iastore, 1) := by decide +kernel
theorem dX10_init_286 : decode cX10_init 286 = .ok (.dup, 1) := by decide +kernel
theorem dX10_init_287 : decode cX10_init 287 = .ok (.bipush 18, 2) := by decide +kernel
theorem dX10_init_289 : decode cX10_init 289 = .ok (.bipush 15, 2) := by decide +kernel
theorem dX10_init_291 : decode cX10_init 291 = .ok (.iastore, 1) := by decide +kernel
theorem dX10_init_292 : decode cX10_init 292 = .ok (.dup, 1) := by decide +kernel
theorem dX10_init_293 : decode cX10_init 293 = .ok (.bipush 19, 2) := by decide +kernel
theorem dX10_init_295 : decode cX10_init 295 = .ok (.bipush 44, 2) := by decide +kernel
theorem dX10_init_297 : decode cX10_init 297 = .ok (.iastore, 1) := by decide +kernel
theorem dX10_init_298 : decode cX10_init 298 = .ok (.dup, 1) := by decide +kernel
theorem dX10_init_299 : decode cX10_init 299 = .ok (.bipush 20, 2) := by decide +kernel
theorem dX10_init_301 : decode cX10_init 301 = .ok (.bipush 16, 2) := by decide +kernel
theorem dX10_init_303 : decode cX10_init 303 = .ok (.iastore, 1) := by decide +kernel
theorem dX10_init_304 : decode cX10_init 304 = .ok (.dup, 1) := by decide +kernel
theorem dX10_init_305 : decode cX10_init 305 = .ok (.bipush 21, 2) := by decide +kernel
theorem dX10_init_307 : decode cX10_init 307 = .ok (.bipush 47, 2) := by decide +kernel
theorem dX10_init_309 : decode cX10_init 309 = .ok (.iastore, 1) := by decide +kernel
theorem dX10_init_310 : decode cX10_init 310 = .ok (.dup, 1) := by decide +kernel
theorem dX10_init_311 : decode cX10_init 311 = .ok (.bipush 22, 2) := by decide +kernel
theorem dX10_init_313 : decode cX10_init 313 = .ok (.bipush 17, 2) := by decide +kernel
theorem dX10_init_315 : decode cX10_init 315 = .ok (.iastore, 1) := by decide +kernel
theorem dX10_init_316 : decode cX10_init 316 = .ok (.dup, 1) := by decide +kernel
theorem dX10_init_317 : decode cX10_init 317 = .ok (.bipush 23, 2) := by decide +kernel
theorem dX10_init_319 : decode cX10_init 319 = .ok (.bipush 41, 2) := by decide +kernel
theorem dX10_init_321 : decode cX10_init 321 = .ok (.iastore, 1) := by decide +kernel
theorem dX10_init_322 : decode cX10_init 322 = .ok (.dup, 1) := by decide +kernel
theorem dX10_init_323 : decode cX10_init 323 = .ok (.bipush 24, 2) := by decide +kernel
theorem dX10_init_325 : decode cX10_init 325 = .ok (.bipush 18, 2) := by decide +kernel
theorem dX10_init_327 : decode cX10_init 327 = .ok (.iastore, 1) := by decide +kernel
theorem dX10_init_328 : decode cX10_init 328 = .ok (.dup, 1) := by decide +kernel
theorem dX10_init_329 : decode cX10_init 329 = .ok (.bipush 25, 2) := by decide +kernel
theorem dX10_init_331 : decode cX10_init 331 = .ok (.bipush 44, 2) := by decide +kernel
theorem dX10_init_333 : decode cX10_init 333 = .ok (.iastore, 1) := by decide +kernel
theorem dX10_init_334 : decode cX10_init 334 = .ok (.dup, 1) := by decide +kernel
theorem dX10_init_335 : decode cX10_init 335 = .ok (.bipush 26, 2) := by decide +kernel
theorem dX10_init_337 : decode cX10_init 337 = .ok (.bipush 19, 2) := by decide +kernel
theorem dX10_init_339 : decode cX10_init 339 = .ok (.iastore, 1) := by decide +kernel
theorem dX10_init_340 : decode cX10_init 340 = .ok (.dup, 1) := by decide +kernel
theorem dX10_init_341 : decode cX10_init 341 = .ok (.bipush 27, 2) := by decide +kernel
theorem dX10_init_343 : decode cX10_init 343 = .ok (.bipush 48, 2) := by decide +kernel
theorem dX10_init_345 : decode cX10_init 345 = .ok (.iastore, 1) := by decide +kernel
theorem dX10_init_346 : decode cX10_init 346 = .ok (.dup, 1) := by decide +kernel
theorem dX10_init_347 : decode cX10_init 347 = .ok (.bipush 28, 2) := by decide +kernel
theorem dX10_init_349 : decode cX10_init 349 = .ok (.bipush 20, 2) := by decide +kernel
theorem dX10_init_351 : decode cX10_init 351 = .ok (.iastore, 1) := by decide +kernel
theorem dX10_init_352 : decode cX10_init 352 = .ok (.dup, 1) := by decide +kernel
theorem dX10_init_353 : decode cX10_init 353 = .ok (.bipush 29, 2) := by decide +kernel
theorem dX10_init_355 : decode cX10_init 355 = .ok (.bipush 41, 2) := by decide +kernel
theorem dX10_init_357 : decode cX10_init 357 = .ok (.iastore, 1) := by decide +kernel
theorem dX10_init_358 : decode cX10_init 358 = .ok (.dup, 1) := by decide +kernel
theorem dX10_init_359 : decode cX10_init 359 = .ok (.bipush 30, 2) := by decide +kernel
theorem dX10_init_361 : decode cX10_init 361 = .ok (.bipush 21, 2) := by decide +kernel
theorem dX10_init_363 : decode cX10_init 363 = .ok (.iastore, 1) := by decide +kernel
theorem dX10_init_364 : decode cX10_init 364 = .ok (.dup, 1) := by decide +kernel
theorem dX10_init_365 : decode cX10_init 365 = .ok (.bipush 31, 2) := by decide +kernel
theorem dX10_init_367 : decode cX10_init 367 = .ok (.bipush 43, 2) := by decide +kernel
theorem dX10_init_369 : decode cX10_init 369 = .ok (.iastore, 1) := by decide +kernel
theorem dX10_init_370 : decode cX10_init 370 = .ok (.dup, 1) := by decide +kernel
theorem dX10_init_371 : decode cX10_init 371 = .ok (.bipush 32, 2) := by decide +kernel
theorem dX10_init_373 : decode cX10_init 373 = .ok (.bipush 22, 2) := by decide +kernel
theorem dX10_init_375 : decode cX10_init 375 = .ok (.iastore, 1) := by decide +kernel
theorem dX10_init_376 : decode cX10_init 376 = .ok (.dup, 1) := by decide +kernel
theorem dX10_init_377 : decode cX10_init 377 = .ok (.bipush 33, 2) := by decide +kernel
theorem dX10_init_379 : decode cX10_init 379 = .ok (.bipush 47, 2) := by decide +kernel
theorem dX10_init_381 : decode cX10_init 381 = .ok (.iastore, 1) := by decide +kernel
theorem dX10_init_382 : decode cX10_init 382 = .ok (.dup, 1) := by decide +kernel
theorem dX10_init_383 : decode cX10_init 383 = .ok (.bipush 34, 2) := by decide +kernel
theorem dX10_init_385 : decode cX10_init 385 = .ok (.bipush 23, 2) := by decide +kernel
theorem dX10_init_387 : decode cX10_init 387 = .ok (.iastore, 1) := by decide +kernel
theorem dX10_init_388 : decode cX10_init 388 = .ok (.dup, 1) := by decide +kernel
theorem dX10_init_389 : decode cX10_init 389 = .ok (.bipush 35, 2) := by decide +kernel
theorem dX10_init_391 : decode cX10_init 391 = .ok (.bipush 46, 2) := by decide +kernel
theorem dX10_init_393 : decode cX10_init 393 = .ok (.iastore, 1) := by decide +kernel
theorem dX10_init_394 : decode cX10_init 394 = .ok (.putfield 16, 3) := by decide +kernel
theorem dX10_init_397 : decode cX10_init 397 = .ok (.aload_n 0, 1) := by decide +kernel
theorem dX10_init_398 : decode cX10_init 398 = .ok (.bipush 12, 2) := by decide +kernel
theorem dX10_init_400 : decode cX10_init 400 = .ok (.newarray .int, 2) := by decide +kernel
theorem dX10_init_402 : decode cX10_init 402 = .ok (.dup, 1) := by decide +kernel
theorem dX10_init_403 : decode cX10_init 403 = .ok (.iconst 0, 1) := by decide +kernel
theorem dX10_init_404 : decode cX10_init 404 = .ok (.bipush 41, 2) := by decide +kernel
theorem dX10_init_406 : decode cX10_init 406 = .ok (.iastore, 1) := by decide +kernel
theorem dX10_init_407 : decode cX10_init 407 = .ok (.dup, 1) := by decide +kernel
theorem dX10_init_408 : decode cX10_init 408 = .ok (.iconst 1, 1) := by decide +kernel
theorem dX10_init_409 : decode cX10_init 409 = .ok (.bipush 40, 2) := by decide +kernel
theorem dX10_init_411 : decode cX10_init 411 = .ok (.iastore, 1) := by decide +kernel
theorem dX10_init_412 : decode cX10_init 412 = .ok (.dup, 1) := by decide +kernel
theorem dX10_init_413 : decode cX10_init 413 = .ok (.iconst 2, 1) := by decide +kernel
theorem dX10_init_414 : decode cX10_init 414 = .ok (.bipush 42, 2) := by decide +kernel
theorem dX10_init_416 : decode cX10_init 416 = .ok (.iastore, 1) := by decide +kernel
theorem dX10_init_417 : decode cX10_init 417 = .ok (.dup, 1) := by decide +kernel
theorem dX10_init_418 : decode cX10_init 418 = .ok (.iconst 3, 1) := by decide +kernel
theorem dX10_init_419 : decode cX10_init 419 = .ok (.bipush 40, 2) := by decide +kernel
theorem dX10_init_421 : decode cX10_init 421 = .ok (.iastore, 1) := by decide +kernel
theorem dX10_init_422 : decode cX10_init 422 = .ok (.dup, 1) := by decide +kernel
theorem dX10_init_423 : decode cX10_init 423 = .ok (.iconst 4, 1) := by decide +kernel
theorem dX10_init_424 : decode cX10_init 424 = .ok (.bipush 46, 2) := by decide +kernel
theorem dX10_init_426 : decode cX10_init 426 = .ok (.iastore, 1) := by decide +kernel
theorem dX10_init_427 : decode cX10_init 427 = .ok (.dup, 1) := by decide +kernel
theorem dX10_init_428 : decode cX10_init 428 = .ok (.iconst 5, 1) := by decide +kernel
theorem dX10_init_429 : decode cX10_init 429 = .ok (.bipush 45, 2) := by decide +kernel
theorem dX10_init_431 : decode cX10_init 431 = .ok (.iastore, 1) := by decide +kernel
theorem dX10_init_432 : decode cX10_init 432 = .ok (.dup, 1) := by decide +kernel
theorem dX10_init_433 : decode cX10_init 433 = .ok (.bipush 6, 2) := by decide +kernel
theorem dX10_init_435 : decode cX10_init 435 = .ok (.bipush 47, 2) := by decide +kernel
theorem dX10_init_437 : decode cX10_init 437 = .ok (.iastore, 1) := by decide +kernel
theorem dX10_init_438 : decode cX10_init 438 = .ok (.dup, 1) := by decide +kernel
theorem dX10_init_439 : decode cX10_init 439 = .ok (.bipush 7, 2) := by decide +kernel
theorem dX10_init_441 : decode cX10_init 441 = .ok (.bipush 45, 2) := by decide +kernel
theorem dX10_init_443 : decode cX10_init 443 = .ok (.iastore, 1) := by decide +kernel
theorem dX10_init_444 : decode cX10_init 444 = .ok (.dup, 1) := by decide +kernel
theorem dX10_init_445 : decode cX10_init 445 = .ok (.bipush 8, 2) := by decide +kernel
theorem dX10_init_447 : decode cX10_init 447 = .ok (.bipush 48, 2) := by decide +kernel
theorem dX10_init_449 : decode cX10_init 449 = .ok (.iastore, 1) := by decide +kernel
theorem dX10_init_450 : decode cX10_init 450 = .ok (.dup, 1) := by decide +kernel
theorem dX10_init_451 : decode cX10_init 451 = .ok (.bipush 9, 2) := by decide +kernel
theorem dX10_init_453 : decode cX10_init 453 = .ok (.bipush 47, 2) := by decide +kernel
theorem dX10_init_455 : decode cX10_init 455 = .ok (.iastore, 1) := by decide +kernel
theorem dX10_init_456 : decode cX10_init 456 = .ok (.dup, 1) := by decide +kernel
theorem dX10_init_457 : decode cX10_init 457 = .ok (.bipush 10, 2) := by decide +kernel
theorem dX10_init_459 : decode cX10_init 459 = .ok (.bipush 48, 2) := by decide +kernel
theorem dX10_init_461 : decode cX10_init 461 = .ok (.iastore, 1) := by decide +kernel
theorem dX10_init_462 : decode cX10_init 462 = .ok (.dup, 1) := by decide +kernel
theorem dX10_init_463 : decode cX10_init 463 = .ok (.bipush 11, 2) := by decide +kernel
theorem dX10_init_465 : decode cX10_init 465 = .ok (.bipush 43, 2) := by decide +kernel
theorem dX10_init_467 : decode cX10_init 467 = .ok (.iastore, 1) := by decide +kernel
theorem dX10_init_468 : decode cX10_init 468 = .ok (.putfield 19, 3) := by decide +kernel
theorem dX10_init_471 : decode cX10_init 471 = .ok (.aload_n 0, 1) := by decide +kernel
theorem dX10_init_472 : decode cX10_init 472 = .ok (.iconst 5, 1) := by decide +kernel
theorem dX10_init_473 : decode cX10_init 473 = .ok (.newarray .int, 2) := by decide +kernel
theorem dX10_init_475 : decode cX10_init 475 = .ok (.dup, 1) := by decide +kernel
theorem dX10_init_476 : decode cX10_init 476 = .ok (.iconst 0, 1) := by decide +kernel
theorem dX10_init_477 : decode cX10_init 477 = .ok (.bipush 9, 2) := by decide +kernel
theorem dX10_init_479 : decode cX10_init 479 = .ok (.iastore, 1) := by decide +kernel
theorem dX10_init_480 : decode cX10_init 480 = .ok (.dup, 1) := by decide +kernel
theorem dX10_init_481 : decode cX10_init 481 = .ok (.iconst 1, 1) := by decide +kernel
theorem dX10_init_482 : decode cX10_init 482 = .ok (.bipush 99, 2) := by decide +kernel
theorem dX10_init_484 : decode cX10_init 484 = .ok (.iastore, 1) := by decide +kernel
theorem dX10_init_485 : decode cX10_init 485 = .ok (.dup, 1) := by decide +kernel
theorem dX10_init_486 : decode cX10_init 486 = .ok (.iconst 2, 1) := by decide +kernel
theorem dX10_init_487 : decode cX10_init 487 = .ok (.sipush 365, 3) := by decide +kernel
theorem dX10_init_490 : decode cX10_init 490 = .ok (.iastore, 1) := by decide +kernel
theorem dX10_init_491 : decode cX10_init 491 = .ok (.dup, 1) := by decide +kernel
theorem dX10_init_492 : decode cX10_init 492 = .ok (.iconst 3, 1) := by decide +kernel
theorem dX10_init_493 : decode cX10_init 493 = .ok (.sipush 1000, 3) := by decide +kernel
theorem dX10_init_496 : decode cX10_init 496 = .ok (.iastore, 1) := by decide +kernel
theorem dX10_init_497 : decode cX10_init 497 = .ok (.dup, 1) := by decide +kernel
theorem dX10_init_498 : decode cX10_init 498 = .ok (.iconst 4, 1) := by decide +kernel
theorem dX10_init_499 : decode cX10_init 499 = .ok (.bipush 9, 2) := by decide +kernel
theorem dX10_init_501 : decode cX10_init 501 = .ok (.iastore, 1) := by decide +kernel
theorem dX10_init_502 : decode cX10_init 502 = .ok (.putfield 22, 3) := by decide +kernel
theorem dX10_init_505 : decode cX10_init 505 = .ok (.aload_n 0, 1) := by decide +kernel
theorem dX10_init_506 : decode cX10_init 506 = .ok (.sipush 245, 3) := by decide +kernel
theorem dX10_init_509 : decode cX10_init 509 = .ok (.newarray .int, 2) := by decide +kernel
theorem dX10_init_511 : decode cX10_init 511 = .ok (.putfield 25, 3) := by decide +kernel
theorem dX10_init_514 : decode cX10_init 514 = .ok (.aload_n 0, 1) := by decide +kernel
theorem dX10_init_515 : decode cX10_init 515 = .ok (.sipush 300, 3) := by decide +kernel
theorem dX10_init_518 : decode cX10_init 518 = .ok (.newarray .int, 2) := by decide +kernel
theorem dX10_init_520 : decode cX10_init 520 = .ok (.putfield 28, 3) := by decide +kernel
theorem dX10_init_523 : decode cX10_init 523 = .ok (.aload_n 0, 1) := by decide +kernel
theorem dX10_init_524 : decode cX10_init 524 = .ok (.sipush 300, 3) := by decide +kernel
theorem dX10_init_527 : decode cX10_init 527 = .ok (.newarray .int, 2) := by decide +kernel
theorem dX10_init_529 : decode cX10_init 529 = .ok (.putfield 31, 3) := by decide +kernel
theorem dX10_init_532 : decode cX10_init 532 = .ok (.aload_n 0, 1) := by decide +kernel
theorem dX10_init_533 : decode cX10_init 533 = .ok (.sipush 300, 3) := by decide +kernel
theorem dX10_init_536 : decode cX10_init 536 = .ok (.newarray .int, 2) := by decide +kernel
theorem dX10_init_538 : decode cX10_init 538 = .ok (.putfield 34, 3) := by decide +kernel
theorem dX10_init_541 : decode cX10_init 541 = .ok (.aload_n 0, 1) := by decide +kernel
theorem dX10_init_542 : decode cX10_init 542 = .ok (.sipush 300, 3) := by decide +kernel
theorem dX10_init_545 : decode cX10_init 545 = .ok (.newarray .int, 2) := by decide +kernel
theorem dX10_init_547 : decode cX10_init 547 = .ok (.putfield 37, 3) := by decide +kernel
theorem dX10_init_550 : decode cX10_init 550 = .ok (.aload_n 0, 1) := by decide +kernel
theorem dX10_init_551 : decode cX10_init 551 = .ok (.sipush 300, 3) := by decide +kernel
theorem dX10_init_554 : decode cX10_init 554 = .ok (.newarray .int, 2) := by decide +kernel
theorem dX10_init_556 : decode cX10_init 556 = .ok (.putfield 40, 3) := by decide +kernel
theorem dX10_init_559 : decode cX10_init 559 = .ok (.aload_n 0, 1) := by decide +kernel
theorem dX10_init_560 : decode cX10_init 560 = .ok (.sipush 300, 3) := by decide +kernel
theorem dX10_init_563 : decode cX10_init 563 = .ok (.newarray .int, 2) := by decide +kernel
theorem dX10_init_565 : decode cX10_init 565 = .ok (.putfield 43, 3) := by decide +kernel
theorem dX10_init_568 : decode cX10_init 568 = .ok (.aload_n 0, 1) := by decide +kernel
theorem dX10_init_569 : decode cX10_init 569 = .ok (.sipush 300, 3) := by decide +kernel
theorem dX10_init_572 : decode cX10_init 572 = .ok (.newarray .int, 2) := by decide +kernel
theorem dX10_init_574 : decode cX10_init 574 = .ok (.putfield 46, 3) := by decide +kernel
theorem dX10_init_577 : decode cX10_init 577 = .ok (.aload_n 0, 1) := by decide +kernel
theorem dX10_init_578 : decode cX10_init 578 = .ok (.sipush 300, 3) := by decide +kernel
theorem dX10_init_581 : decode cX10_init 581 = .ok (.newarray .int, 2) := by decide +kernel
theorem dX10_init_583 : decode cX10_init 583 = .ok (.putfield 49, 3) := by decide +kernel
theorem dX10_init_586 : decode cX10_init 586 = .ok (.aload_n 0, 1) := by decide +kernel
theorem dX10_init_587 : decode cX10_init 587 = .ok (.sipush 300, 3) := by decide +kernel
theorem dX10_init_590 : decode cX10_init 590 = .ok (.newarray .int, 2) := by decide +kernel
theorem dX10_init_592 : decode cX10_init 592 = .ok (.putfield 52, 3) := by decide +kernel
theorem dX10_init_595 : decode cX10_init 595 = .ok (.aload_n 0, 1) := by decide +kernel
theorem dX10_init_596 : decode cX10_init 596 = .ok (.sipush 300, 3) := by decide +kernel
theorem dX10_init_599 : decode cX10_init 599 = .ok (.newarray .int, 2) := by decide +kernel
theorem dX10_init_601 : decode cX10_init 601 = .ok (.putfield 55, 3) := by decide +kernel
theorem dX10_init_604 : decode cX10_init 604 = .ok (.aload_n 0, 1) := by decide +kernel
theorem dX10_init_605 : decode cX10_init 605 = .ok (.bipush 40, 2) := by decide +kernel
theorem dX10_init_607 : decode cX10_init 607 = .ok (.newarray .int, 2) := by decide +kernel
theorem dX10_init_609 : decode cX10_init 609 = .ok (.putfield 58, 3) := by decide +kernel
theorem dX10_init_612 : decode cX10_init 612 = .ok (.aload_n 0, 1) := by decide +kernel
theorem dX10_init_613 : decode cX10_init 613 = .ok (.bipush 40, 2) := by decide +kernel
theorem dX10_init_615 : decode cX10_init 615 = .ok (.newarray .int, 2) := by decide +kernel
theorem dX10_init_617 : decode cX10_init 617 = .ok (.putfield 61, 3) := by decide +kernel
theorem dX10_init_620 : decode cX10_init 620 = .ok (.aload_n 0, 1) := by decide +kernel
theorem dX10_init_621 : decode cX10_init 621 = .ok (.bipush 10, 2) := by decide +kernel
theorem dX10_init_623 : decode cX10_init 623 = .ok (.newarray .int, 2) := by decide +kernel
theorem dX10_init_625 : decode cX10_init 625 = .ok (.putfield 64, 3) := by decide +kernel
theorem dX10_init_628 : decode cX10_init 628 = .ok (.aload_n 0, 1) := by decide +kernel
theorem dX10_init_629 : decode cX10_init 629 = .ok (.bipush 10, 2) := by decide +kernel
theorem dX10_init_631 : decode cX10_init 631 = .ok (.newarray .int, 2) := by decide +kernel
theorem dX10_init_633 : decode cX10_init 633 = .ok (.putfield 67, 3) := by decide +kernel
theorem dX10_init_636 : decode cX10_init 636 = .ok (.aload_n 0, 1) := by decide +kernel
theorem dX10_init_637 : decode cX10_init 637 = .ok (.bipush 20, 2) := by decide +kernel
theorem dX10_init_639 : decode cX10_init 639 = .ok (.newarray .int, 2) := by decide +kernel
theorem dX10_init_641 : decode cX10_init 641 = .ok (.putfield 70, 3) := by decide +kernel
theorem dX10_init_644 : decode cX10_init 644 = .ok (.aload_n 0, 1) := by decide +kernel
theorem dX10_init_645 : decode cX10_init 645 = .ok (.bipush 10, 2) := by decide +kernel
theorem dX10_init_647 : decode cX10_init 647 = .ok (.newarray .int, 2) := by decide +kernel
theorem dX10_init_649 : decode cX10_init 649 = .ok (.putfield 73, 3) := by decide +kernel
theorem dX10_init_652 : decode cX10_init 652 = .ok (.aload_n 0, 1) := by decide +kernel
theorem dX10_init_653 : decode cX10_init 653 = .ok (.sipush 400, 3) := by decide +kernel
theorem dX10_init_656 : decode cX10_init 656 = .ok (.newarray .int, 2) := by decide +kernel
theorem dX10_init_658 : decode cX10_init 658 = .ok (.putfield 76, 3) := by decide +kernel
theorem dX10_init_661 : decode cX10_init 661 = .ok (.aload_n 0, 1) := by decide +kernel
theorem dX10_init_662 : decode cX10_init 662 = .ok (.sipush 400, 3) := by decide +kernel
theorem dX10_init_665 : decode cX10_init 665 = .ok (.newarray .int, 2) := by decide +kernel
theorem dX10_init_667 : decode cX10_init 667 = .ok (.putfield 79, 3) := by decide +kernel
theorem dX10_init_670 : decode cX10_init 670 = .ok (.aload_n 0, 1) := by decide +kernel
theorem dX10_init_671 : decode cX10_init 671 = .ok (.sipush 400, 3) := by decide +kernel
theorem dX10_init_674 : decode cX10_init 674 = .ok (.newarray .int, 2) := by decide +kernel
theorem dX10_init_676 : decode cX10_init 676 = .ok (.putfield 82, 3) := by decide +kernel
theorem dX10_init_679 : decode cX10_init 679 = .ok (.aload_n 0, 1) := by decide +kernel
theorem dX10_init_680 : decode cX10_init 680 = .ok (.sipush 400, 3) := by decide +kernel
theorem dX10_init_683 : decode cX10_init 683 = .ok (.newarray .int, 2) := by decide +kernel
theorem dX10_init_685 : decode cX10_init 685 = .ok (.putfield 85, 3) := by decide +kernel
theorem dX10_init_688 : decode cX10_init 688 = .ok (.iconst 0, 1) := by decide +kernel
theorem dX10_init_689 : decode cX10_init 689 = .ok (.istore_n 1, 1) := by decide +kernel
theorem dX10_init_690 : decode cX10_init 690 = .ok (.iload_n 1, 1) := by decide +kernel
theorem dX10_init_691 : decode cX10_init 691 = .ok (.sipush 245, 3) := by decide +kernel
theorem dX10_init_694 : decode cX10_init 694 = .ok (.if_icmp .ge 16, 3) := by decide +kernel
theorem dX10_init_697 : decode cX10_init 697 = .ok (.aload_n 0, 1) := by decide +kernel
theorem dX10_init_698 : decode cX10_init 698 = .ok (.getfield 25, 3) := by decide +kernel
theorem dX10_init_701 : decode cX10_init 701 = .ok (.iload_n 1, 1) := by decide +kernel
theorem dX10_init_702 : decode cX10_init 702 = .ok (.iconst (-1), 1) := by decide +kernel
theorem dX10_init_703 : decode cX10_init 703 = .ok (.iastore, 1) := by decide +kernel
theorem dX10_init_704 : decode cX10_init 704 = .ok (.iinc 1 1, 3) := by decide +kernel
theorem dX10_init_707 : decode cX10_init 707 = .ok (.goto (-17), 3) := by decide +kernel
theorem dX10_init_710 : decode cX10_init 710 = .ok (.return_, 1) := by decide +kernel
theorem dX10_in_0 : decode cX10_in 0 = .ok (.iload_n 0, 1) := by decide +kernel
theorem dX10_in_1 : decode cX10_in 1 = .ok (.iload_n 1, 1) := by decide +kernel
theorem dX10_in_2 : decode cX10_in 2 = .ok (.if_icmp .lt 12, 3) := by decide +kernel
theorem dX10_in_5 : decode cX10_in 5 = .ok (.iload_n 0, 1) := by decide +kernel
theorem dX10_in_6 : decode cX10_in 6 = .ok (.iload_n 2, 1) := by decide +kernel
theorem dX10_in_7 : decode cX10_in 7 = .ok (.if_icmp .gt 7, 3) := by decide +kernel
theorem dX10_in_10 : decode cX10_in 10 = .ok (.iconst 1, 1) := by decide +kernel
theorem dX10_in_11 : decode cX10_in 11 = .ok (.goto 4, 3) := by decide +kernel
theorem dX10_in_14 : decode cX10_in 14 = .ok (.iconst 0, 1) := by decide +kernel
theorem dX10_in_15 : decode cX10_in 15 = .ok (.ireturn, 1) := by decide +kernel
theorem dX10_isKind_0 : decode cX10_isKind 0 = .ok (.iload_n 0, 1) := by decide +kernel
theorem dX10_isKind_1 : decode cX10_isKind 1 = .ok (.iconst 0, 1) := by decide +kernel
theorem dX10_isKind_2 : decode cX10_isKind 2 = .ok (.bipush 23, 2) := by decide +kernel
theorem dX10_isKind_4 : decode cX10_isKind 4 = .ok (.invokestatic 88, 3) := by decide +kernel
theorem dX10_isKind_7 : decode cX10_isKind 7 = .ok (.ireturn, 1) := by decide +kernel
theorem dX10_isTrait_0 : decode cX10_isTrait 0 = .ok (.iload_n 0, 1) := by decide +kernel
theorem dX10_isTrait_1 : decode cX10_isTrait 1 = .ok (.bipush 40, 2) := by decide +kernel
theorem dX10_isTrait_3 : decode cX10_isTrait 3 = .ok (.bipush 48, 2) := by decide +kernel
theorem dX10_isTrait_5 : decode cX10_isTrait 5 = .ok (.invokestatic 88, 3) := by decide +kernel
theorem dX10_isTrait_8 : decode cX10_isTrait 8 = .ok (.ireturn, 1) := by decide +kernel
theorem dX10_isCode_0 : decode cX10_isCode 0 = .ok (.iload_n 0, 1) := by decide +kernel
theorem dX10_isCode_1 : decode cX10_isCode 1 = .ok (.invokestatic 92, 3) := by decide +kernel
theorem dX10_isCode_4 : decode cX10_isCode 4 = .ok (.ifCond .ne 10, 3) := by decide +kernel
theorem dX10_isCode_7 : decode cX10_isCode 7 = .ok (.iload_n 0, 1) := by decide +kernel
theorem dX10_isCode_8 : decode cX10_isCode 8 = .ok (.invokestatic 96, 3) := by decide +kernel
theorem dX10_isCode_11 : decode cX10_isCode 11 = .ok (.ifCond .eq 7, 3) := by decide +kernel
theorem dX10_isCode_14 : decode cX10_isCode 14 = .ok (.iconst 1, 1) := by decide +kernel
theorem dX10_isCode_15 : decode cX10_isCode 15 = .ok (.goto 4, 3) := by decide +kernel
theorem dX10_isCode_18 : decode cX10_isCode 18 = .ok (.iconst 0, 1) := by decide +kernel
theorem dX10_isCode_19 : decode cX10_isCode 19 = .ok (.ireturn, 1) := by decide +kernel
theorem dX10_isSpecimen_0 : decode cX10_isSpecimen 0 = .ok (.iload_n 1, 1) := by decide +kernel
theorem dX10_isSpecimen_1 : decode cX10_isSpecimen 1 = .ok (.iconst 0, 1) := by decide +kernel
theorem dX10_isSpecimen_2 : decode cX10_isSpecimen 2 = .ok (.aload_n 0, 1) := by decide +kernel
theorem dX10_isSpecimen_3 : decode cX10_isSpecimen 3 = .ok (.getfield 99, 3) := by decide +kernel
theorem dX10_isSpecimen_6 : decode cX10_isSpecimen 6 = .ok (.iconst 1, 1) := by decide +kernel
theorem dX10_isSpecimen_7 : decode cX10_isSpecimen 7 = .ok (.isub, 1) := by decide +kernel
theorem dX10_isSpecimen_8 : decode cX10_isSpecimen 8 = .ok (.invokestatic 88, 3) := by decide +kernel
theorem dX10_isSpecimen_11 : decode cX10_isSpecimen 11 = .ok (.ireturn, 1) := by decide +kernel
theorem dX10_isAbstract_0 : decode cX10_isAbstract 0 = .ok (.iconst 0, 1) := by decide +kernel
theorem dX10_isAbstract_1 : decode cX10_isAbstract 1 = .ok (.istore_n 2, 1) := by decide +kernel
theorem dX10_isAbstract_2 : decode cX10_isAbstract 2 = .ok (.iconst 0, 1) := by decide +kernel
theorem dX10_isAbstract_3 : decode cX10_isAbstract 3 = .ok (.istore_n 3, 1) := by decide +kernel
theorem dX10_isAbstract_4 : decode cX10_isAbstract 4 = .ok (.iload_n 3, 1) := by decide +kernel
theorem dX10_isAbstract_5 : decode cX10_isAbstract 5 = .ok (.bipush 7, 2) := by decide +kernel
theorem dX10_isAbstract_7 : decode cX10_isAbstract 7 = .ok (.if_icmp .ge 29, 3) := by decide +kernel
theorem dX10_isAbstract_10 : decode cX10_isAbstract 10 = .ok (.iload_n 2, 1) := by decide +kernel
theorem dX10_isAbstract_11 : decode cX10_isAbstract 11 = .ok (.ifCond .ne 13, 3) := by decide +kernel
theorem dX10_isAbstract_14 : decode cX10_isAbstract 14 = .ok (.aload_n 0, 1) := by decide +kernel
theorem dX10_isAbstract_15 : decode cX10_isAbstract 15 = .ok (.getfield 13, 3) := by decide +kernel
theorem dX10_isAbstract_18 : decode cX10_isAbstract 18 = .ok (.iload_n 3, 1) := by decide +kernel
theorem dX10_isAbstract_19 : decode cX10_isAbstract 19 = .ok (.iaload, 1) := by decide +kernel
theorem dX10_isAbstract_20 : decode cX10_isAbstract 20 = .ok (.iload_n 1, 1) := by decide +kernel
theorem dX10_isAbstract_21 : decode cX10_isAbstract 21 = .ok (.if_icmp .ne 7, 3) := by decide +kernel
theorem dX10_isAbstract_24 : decode cX10_isAbstract 24 = .ok (.iconst 1, 1) := by decide +kernel
theorem dX10_isAbstract_25 : decode cX10_isAbstract 25 = .ok (.goto 4, 3) := by decide +kernel
theorem dX10_isAbstract_28 : decode cX10_isAbstract 28 = .ok (.iconst 0, 1) := by decide +kernel
theorem dX10_isAbstract_29 : decode cX10_isAbstract 29 = .ok (.istore_n 2, 1) := by decide +kernel
theorem dX10_isAbstract_30 : decode cX10_isAbstract 30 = .ok (.iinc 3 1, 3) := by decide +kernel
theorem dX10_isAbstract_33 : decode cX10_isAbstract 33 = .ok (.goto (-29), 3) := by decide +kernel
theorem dX10_isAbstract_36 : decode cX10_isAbstract 36 = .ok (.iload_n 2, 1) := by decide +kernel
theorem dX10_isAbstract_37 : decode cX10_isAbstract 37 = .ok (.ireturn, 1) := by decide +kernel
theorem dX10_traitAbove_0 : decode cX10_traitAbove 0 = .ok (.iload_n 2, 1) := by decide +kernel
theorem dX10_traitAbove_1 : decode cX10_traitAbove 1 = .ok (.istore_n 3, 1) := by decide +kernel
theorem dX10_traitAbove_2 : decode cX10_traitAbove 2 = .ok (.iload_n 3, 1) := by decide +kernel
theorem dX10_traitAbove_3 : decode cX10_traitAbove 3 = .ok (.iload_n 1, 1) := by decide +kernel
theorem dX10_traitAbove_4 : decode cX10_traitAbove 4 = .ok (.if_icmp .ne 5, 3) := by decide +kernel
theorem dX10_traitAbove_7 : decode cX10_traitAbove 7 = .ok (.iconst 1, 1) := by decide +kernel
theorem dX10_traitAbove_8 : decode cX10_traitAbove 8 = .ok (.ireturn, 1) := by decide +kernel
theorem dX10_traitAbove_9 : decode cX10_traitAbove 9 = .ok (.iconst 0, 1) := by decide +kernel
theorem dX10_traitAbove_10 : decode cX10_traitAbove 10 = .ok (.istore 4, 2) := by decide +kernel
theorem dX10_traitAbove_12 : decode cX10_traitAbove 12 = .ok (.iload 4, 2) := by decide +kernel
theorem dX10_traitAbove_14 : decode cX10_traitAbove 14 = .ok (.bipush 12, 2) := by decide +kernel
theorem dX10_traitAbove_16 : decode cX10_traitAbove 16 = .ok (.if_icmp .ge 85, 3) := by decide +kernel
theorem dX10_traitAbove_19 : decode cX10_traitAbove 19 = .ok (.aload_n 0, 1) := by decide +kernel
theorem dX10_traitAbove_20 : decode cX10_traitAbove 20 = .ok (.getfield 19, 3) := by decide +kernel
theorem dX10_traitAbove_23 : decode cX10_traitAbove 23 = .ok (.iload 4, 2) := by decide +kernel
theorem dX10_traitAbove_25 : decode cX10_traitAbove 25 = .ok (.iaload, 1) := by decide +kernel
theorem dX10_traitAbove_26 : decode cX10_traitAbove 26 = .ok (.iload_n 2, 1) := by decide +kernel
theorem dX10_traitAbove_27 : decode cX10_traitAbove 27 = .ok (.if_icmp .eq 6, 3) := by decide +kernel
theorem dX10_traitAbove_30 : decode cX10_traitAbove 30 = .ok (.goto 65, 3) := by decide +kernel
theorem dX10_traitAbove_33 : decode cX10_traitAbove 33 = .ok (.aload_n 0, 1) := by decide +kernel
theorem dX10_traitAbove_34 : decode cX10_traitAbove 34 = .ok (.getfield 19, 3) := by decide +kernel
theorem dX10_traitAbove_37 : decode cX10_traitAbove 37 = .ok (.iload 4, 2) := by decide +kernel
theorem dX10_traitAbove_39 : decode cX10_traitAbove 39 = .ok (.iconst 1, 1) := by decide +kernel
theorem dX10_traitAbove_40 : decode cX10_traitAbove 40 = .ok (.iadd, 1) := by decide +kernel
theorem dX10_traitAbove_41 : decode cX10_traitAbove 41 = .ok (.iaload, 1) := by decide +kernel
theorem dX10_traitAbove_42 : decode cX10_traitAbove 42 = .ok (.istore 5, 2) := by decide +kernel
theorem dX10_traitAbove_44 : decode cX10_traitAbove 44 = .ok (.iload 5, 2) := by decide +kernel
theorem dX10_traitAbove_46 : decode cX10_traitAbove 46 = .ok (.iload_n 1, 1) := by decide +kernel
theorem dX10_traitAbove_47 : decode cX10_traitAbove 47 = .ok (.if_icmp .ne 5, 3) := by decide +kernel
theorem dX10_traitAbove_50 : decode cX10_traitAbove 50 = .ok (.iconst 1, 1) := by decide +kernel
theorem dX10_traitAbove_51 : decode cX10_traitAbove 51 = .ok (.ireturn, 1) := by decide +kernel
theorem dX10_traitAbove_52 : decode cX10_traitAbove 52 = .ok (.iconst 0, 1) := by decide +kernel
theorem dX10_traitAbove_53 : decode cX10_traitAbove 53 = .ok (.istore 6, 2) := by decide +kernel
theorem dX10_traitAbove_55 : decode cX10_traitAbove 55 = .ok (.iload 6, 2) := by decide +kernel
theorem dX10_traitAbove_57 : decode cX10_traitAbove 57 = .ok (.bipush 12, 2) := by decide +kernel
theorem dX10_traitAbove_59 : decode cX10_traitAbove 59 = .ok (.if_icmp .ge 36, 3) := by decide +kernel
theorem dX10_traitAbove_62 : decode cX10_traitAbove 62 = .ok (.aload_n 0, 1) := by decide +kernel
theorem dX10_traitAbove_63 : decode cX10_traitAbove 63 = .ok (.getfield 19, 3) := by decide +kernel
theorem dX10_traitAbove_66 : decode cX10_traitAbove 66 = .ok (.iload 6, 2) := by decide +kernel
theorem dX10_traitAbove_68 : decode cX10_traitAbove 68 = .ok (.iaload, 1) := by decide +kernel
theorem dX10_traitAbove_69 : decode cX10_traitAbove 69 = .ok (.iload 5, 2) := by decide +kernel
theorem dX10_traitAbove_71 : decode cX10_traitAbove 71 = .ok (.if_icmp .ne 18, 3) := by decide +kernel
theorem dX10_traitAbove_74 : decode cX10_traitAbove 74 = .ok (.aload_n 0, 1) := by decide +kernel
theorem dX10_traitAbove_75 : decode cX10_traitAbove 75 = .ok (.getfield 19, 3) := by decide +kernel
theorem dX10_traitAbove_78 : decode cX10_traitAbove 78 = .ok (.iload 6, 2) := by decide +kernel
theorem dX10_traitAbove_80 : decode cX10_traitAbove 80 = .ok (.iconst 1, 1) := by decide +kernel
theorem dX10_traitAbove_81 : decode cX10_traitAbove 81 = .ok (.iadd, 1) := by decide +kernel
theorem dX10_traitAbove_82 : decode cX10_traitAbove 82 = .ok (.iaload, 1) := by decide +kernel
theorem dX10_traitAbove_83 : decode cX10_traitAbove 83 = .ok (.iload_n 1, 1) := by decide +kernel
theorem dX10_traitAbove_84 : decode cX10_traitAbove 84 = .ok (.if_icmp .ne 5, 3) := by decide +kernel
theorem dX10_traitAbove_87 : decode cX10_traitAbove 87 = .ok (.iconst 1, 1) := by decide +kernel
theorem dX10_traitAbove_88 : decode cX10_traitAbove 88 = .ok (.ireturn, 1) := by decide +kernel
theorem dX10_traitAbove_89 : decode cX10_traitAbove 89 = .ok (.iinc 6 2, 3) := by decide +kernel
theorem dX10_traitAbove_92 : decode cX10_traitAbove 92 = .ok (.goto (-37), 3) := by decide +kernel
theorem dX10_traitAbove_95 : decode cX10_traitAbove 95 = .ok (.iinc 4 2, 3) := by decide +kernel
theorem dX10_traitAbove_98 : decode cX10_traitAbove 98 = .ok (.goto (-86), 3) := by decide +kernel
theorem dX10_traitAbove_101 : decode cX10_traitAbove 101 = .ok (.iconst 0, 1) := by decide +kernel
theorem dX10_traitAbove_102 : decode cX10_traitAbove 102 = .ok (.ireturn, 1) := by decide +kernel
theorem dX10_stepsTo_0 : decode cX10_stepsTo 0 = .ok (.iconst 0, 1) := by decide +kernel
theorem dX10_stepsTo_1 : decode cX10_stepsTo 1 = .ok (.istore_n 3, 1) := by decide +kernel
theorem dX10_stepsTo_2 : decode cX10_stepsTo 2 = .ok (.iload_n 1, 1) := by decide +kernel
theorem dX10_stepsTo_3 : decode cX10_stepsTo 3 = .ok (.istore 4, 2) := by decide +kernel
theorem dX10_stepsTo_5 : decode cX10_stepsTo 5 = .ok (.iload 4, 2) := by decide +kernel
theorem dX10_stepsTo_7 : decode cX10_stepsTo 7 = .ok (.iconst (-1), 1) := by decide +kernel
theorem dX10_stepsTo_8 : decode cX10_stepsTo 8 = .ok (.if_icmp .eq 80, 3) := by decide +kernel
theorem dX10_stepsTo_11 : decode cX10_stepsTo 11 = .ok (.iload 4, 2) := by decide +kernel
theorem dX10_stepsTo_13 : decode cX10_stepsTo 13 = .ok (.iload_n 2, 1) := by decide +kernel
theorem dX10_stepsTo_14 : decode cX10_stepsTo 14 = .ok (.if_icmp .ne 5, 3) := by decide +kernel
theorem dX10_stepsTo_17 : decode cX10_stepsTo 17 = .ok (.iload_n 3, 1) := by decide +kernel
theorem dX10_stepsTo_18 : decode cX10_stepsTo 18 = .ok (.ireturn, 1) := by decide +kernel
theorem dX10_stepsTo_19 : decode cX10_stepsTo 19 = .ok (.iconst 0, 1) := by decide +kernel
theorem dX10_stepsTo_20 : decode cX10_stepsTo 20 = .ok (.istore 5, 2) := by decide +kernel
theorem dX10_stepsTo_22 : decode cX10_stepsTo 22 = .ok (.iload 5, 2) := by decide +kernel
theorem dX10_stepsTo_24 : decode cX10_stepsTo 24 = .ok (.bipush 36, 2) := by decide +kernel
theorem dX10_stepsTo_26 : decode cX10_stepsTo 26 = .ok (.if_icmp .ge 47, 3) := by decide +kernel
theorem dX10_stepsTo_29 : decode cX10_stepsTo 29 = .ok (.iload_n 2, 1) := by decide +kernel
theorem dX10_stepsTo_30 : decode cX10_stepsTo 30 = .ok (.invokestatic 96, 3) := by decide +kernel
theorem dX10_stepsTo_33 : decode cX10_stepsTo 33 = .ok (.ifCond .eq 40, 3) := by decide +kernel
theorem dX10_stepsTo_36 : decode cX10_stepsTo 36 = .ok (.aload_n 0, 1) := by decide +kernel
theorem dX10_stepsTo_37 : decode cX10_stepsTo 37 = .ok (.getfield 16, 3) := by decide +kernel
theorem dX10_stepsTo_40 : decode cX10_stepsTo 40 = .ok (.iload 5, 2) := by decide +kernel
theorem dX10_stepsTo_42 : decode cX10_stepsTo 42 = .ok (.iaload, 1) := by decide +kernel
theorem dX10_stepsTo_43 : decode cX10_stepsTo 43 = .ok (.iload 4, 2) := by decide +kernel
theorem dX10_stepsTo_45 : decode cX10_stepsTo 45 = .ok (.if_icmp .ne 22, 3) := by decide +kernel
theorem dX10_stepsTo_48 : decode cX10_stepsTo 48 = .ok (.aload_n 0, 1) := by decide +kernel
theorem dX10_stepsTo_49 : decode cX10_stepsTo 49 = .ok (.iload_n 2, 1) := by decide +kernel
theorem dX10_stepsTo_50 : decode cX10_stepsTo 50 = .ok (.aload_n 0, 1) := by decide +kernel
theorem dX10_stepsTo_51 : decode cX10_stepsTo 51 = .ok (.getfield 16, 3) := by decide +kernel
theorem dX10_stepsTo_54 : decode cX10_stepsTo 54 = .ok (.iload 5, 2) := by decide +kernel
theorem dX10_stepsTo_56 : decode cX10_stepsTo 56 = .ok (.iconst 1, 1) := by decide +kernel
theorem dX10_stepsTo_57 : decode cX10_stepsTo 57 = .ok (.iadd, 1) := by decide +kernel
theorem dX10_stepsTo_58 : decode cX10_stepsTo 58 = .ok (.iaload, 1) := by decide +kernel
theorem dX10_stepsTo_59 : decode cX10_stepsTo 59 = .ok (.invokevirtual 103, 3) := by decide +kernel
theorem dX10_stepsTo_62 : decode cX10_stepsTo 62 = .ok (.ifCond .eq 5, 3) := by decide +kernel
theorem dX10_stepsTo_65 : decode cX10_stepsTo 65 = .ok (.iload_n 3, 1) := by decide +kernel
theorem dX10_stepsTo_66 : decode cX10_stepsTo 66 = .ok (.ireturn, 1) := by decide +kernel
theorem dX10_stepsTo_67 : decode cX10_stepsTo 67 = .ok (.iinc 5 2, 3) := by decide +kernel
theorem dX10_stepsTo_70 : decode cX10_stepsTo 70 = .ok (.goto (-48), 3) := by decide +kernel
theorem dX10_stepsTo_73 : decode cX10_stepsTo 73 = .ok (.aload_n 0, 1) := by decide +kernel
theorem dX10_stepsTo_74 : decode cX10_stepsTo 74 = .ok (.getfield 7, 3) := by decide +kernel
theorem dX10_stepsTo_77 : decode cX10_stepsTo 77 = .ok (.iload 4, 2) := by decide +kernel
theorem dX10_stepsTo_79 : decode cX10_stepsTo 79 = .ok (.iaload, 1) := by decide +kernel
theorem dX10_stepsTo_80 : decode cX10_stepsTo 80 = .ok (.istore 4, 2) := by decide +kernel
theorem dX10_stepsTo_82 : decode cX10_stepsTo 82 = .ok (.iinc 3 1, 3) := by decide +kernel
theorem dX10_stepsTo_85 : decode cX10_stepsTo 85 = .ok (.goto (-80), 3) := by decide +kernel
theorem dX10_stepsTo_88 : decode cX10_stepsTo 88 = .ok (.iconst (-1), 1) := by decide +kernel
theorem dX10_stepsTo_89 : decode cX10_stepsTo 89 = .ok (.ireturn, 1) := by decide +kernel
theorem dX10_above_0 : decode cX10_above 0 = .ok (.iload_n 2, 1) := by decide +kernel
theorem dX10_above_1 : decode cX10_above 1 = .ok (.invokestatic 92, 3) := by decide +kernel
theorem dX10_above_4 : decode cX10_above 4 = .ok (.ifCond .eq 21, 3) := by decide +kernel
theorem dX10_above_7 : decode cX10_above 7 = .ok (.aload_n 0, 1) := by decide +kernel
theorem dX10_above_8 : decode cX10_above 8 = .ok (.iload_n 2, 1) := by decide +kernel
theorem dX10_above_9 : decode cX10_above 9 = .ok (.iload_n 1, 1) := by decide +kernel
theorem dX10_above_10 : decode cX10_above 10 = .ok (.invokevirtual 107, 3) := by decide +kernel
theorem dX10_above_13 : decode cX10_above 13 = .ok (.iconst (-1), 1) := by decide +kernel
theorem dX10_above_14 : decode cX10_above 14 = .ok (.if_icmp .eq 7, 3) := by decide +kernel
theorem dX10_above_17 : decode cX10_above 17 = .ok (.iconst 1, 1) := by decide +kernel
theorem dX10_above_18 : decode cX10_above 18 = .ok (.goto 28, 3) := by decide +kernel
theorem dX10_above_21 : decode cX10_above 21 = .ok (.iconst 0, 1) := by decide +kernel
theorem dX10_above_22 : decode cX10_above 22 = .ok (.goto 24, 3) := by decide +kernel
theorem dX10_above_25 : decode cX10_above 25 = .ok (.iload_n 1, 1) := by decide +kernel
theorem dX10_above_26 : decode cX10_above 26 = .ok (.invokestatic 96, 3) := by decide +kernel
theorem dX10_above_29 : decode cX10_above 29 = .ok (.ifCond .eq 16, 3) := by decide +kernel
theorem dX10_above_32 : decode cX10_above 32 = .ok (.aload_n 0, 1) := by decide +kernel
theorem dX10_above_33 : decode cX10_above 33 = .ok (.iload_n 1, 1) := by decide +kernel
theorem dX10_above_34 : decode cX10_above 34 = .ok (.iload_n 2, 1) := by decide +kernel
theorem dX10_above_35 : decode cX10_above 35 = .ok (.invokevirtual 103, 3) := by decide +kernel
theorem dX10_above_38 : decode cX10_above 38 = .ok (.ifCond .eq 7, 3) := by decide +kernel
theorem dX10_above_41 : decode cX10_above 41 = .ok (.iconst 1, 1) := by decide +kernel
theorem dX10_above_42 : decode cX10_above 42 = .ok (.goto 4, 3) := by decide +kernel
theorem dX10_above_45 : decode cX10_above 45 = .ok (.iconst 0, 1) := by decide +kernel
theorem dX10_above_46 : decode cX10_above 46 = .ok (.ireturn, 1) := by decide +kernel
theorem dX10_below_0 : decode cX10_below 0 = .ok (.iload_n 1, 1) := by decide +kernel
theorem dX10_below_1 : decode cX10_below 1 = .ok (.invokestatic 111, 3) := by decide +kernel
theorem dX10_below_4 : decode cX10_below 4 = .ok (.ifCond .eq 17, 3) := by decide +kernel
theorem dX10_below_7 : decode cX10_below 7 = .ok (.iload_n 2, 1) := by decide +kernel
theorem dX10_below_8 : decode cX10_below 8 = .ok (.invokestatic 111, 3) := by decide +kernel
theorem dX10_below_11 : decode cX10_below 11 = .ok (.ifCond .eq 10, 3) := by decide +kernel
theorem dX10_below_14 : decode cX10_below 14 = .ok (.aload_n 0, 1) := by decide +kernel
theorem dX10_below_15 : decode cX10_below 15 = .ok (.iload_n 2, 1) := by decide +kernel
theorem dX10_below_16 : decode cX10_below 16 = .ok (.iload_n 1, 1) := by decide +kernel
theorem dX10_below_17 : decode cX10_below 17 = .ok (.invokevirtual 114, 3) := by decide +kernel
theorem dX10_below_20 : decode cX10_below 20 = .ok (.ireturn, 1) := by decide +kernel
theorem dX10_below_21 : decode cX10_below 21 = .ok (.iload_n 1, 1) := by decide +kernel
theorem dX10_below_22 : decode cX10_below 22 = .ok (.bipush 100, 2) := by decide +kernel
theorem dX10_below_24 : decode cX10_below 24 = .ok (.isub, 1) := by decide +kernel
theorem dX10_below_25 : decode cX10_below 25 = .ok (.invokestatic 111, 3) := by decide +kernel
theorem dX10_below_28 : decode cX10_below 28 = .ok (.ifCond .eq 44, 3) := by decide +kernel
theorem dX10_below_31 : decode cX10_below 31 = .ok (.iload_n 2, 1) := by decide +kernel
theorem dX10_below_32 : decode cX10_below 32 = .ok (.bipush 100, 2) := by decide +kernel
theorem dX10_below_34 : decode cX10_below 34 = .ok (.isub, 1) := by decide +kernel
theorem dX10_below_35 : decode cX10_below 35 = .ok (.invokestatic 111, 3) := by decide +kernel
theorem dX10_below_38 : decode cX10_below 38 = .ok (.ifCond .eq 34, 3) := by decide +kernel
theorem dX10_below_41 : decode cX10_below 41 = .ok (.iload_n 1, 1) := by decide +kernel
theorem dX10_below_42 : decode cX10_below 42 = .ok (.bipush 100, 2) := by decide +kernel
theorem dX10_below_44 : decode cX10_below 44 = .ok (.if_icmp .lt 28, 3) := by decide +kernel
theorem dX10_below_47 : decode cX10_below 47 = .ok (.iload_n 2, 1) := by decide +kernel
theorem dX10_below_48 : decode cX10_below 48 = .ok (.bipush 100, 2) := by decide +kernel
theorem dX10_below_50 : decode cX10_below 50 = .ok (.if_icmp .lt 22, 3) := by decide +kernel
theorem dX10_below_53 : decode cX10_below 53 = .ok (.aload_n 0, 1) := by decide +kernel
theorem dX10_below_54 : decode cX10_below 54 = .ok (.iload_n 2, 1) := by decide +kernel
theorem dX10_below_55 : decode cX10_below 55 = .ok (.bipush 100, 2) := by decide +kernel
theorem dX10_below_57 : decode cX10_below 57 = .ok (.isub, 1) := by decide +kernel
theorem dX10_below_58 : decode cX10_below 58 = .ok (.iload_n 1, 1) := by decide +kernel
theorem dX10_below_59 : decode cX10_below 59 = .ok (.bipush 100, 2) := by decide +kernel
theorem dX10_below_61 : decode cX10_below 61 = .ok (.isub, 1) := by decide +kernel
theorem dX10_below_62 : decode cX10_below 62 = .ok (.invokevirtual 114, 3) := by decide +kernel
theorem dX10_below_65 : decode cX10_below 65 = .ok (.ifCond .eq 7, 3) := by decide +kernel
theorem dX10_below_68 : decode cX10_below 68 = .ok (.iconst 1, 1) := by decide +kernel
theorem dX10_below_69 : decode cX10_below 69 = .ok (.goto 4, 3) := by decide +kernel
theorem dX10_below_72 : decode cX10_below 72 = .ok (.iconst 0, 1) := by decide +kernel
theorem dX10_below_73 : decode cX10_below 73 = .ok (.ireturn, 1) := by decide +kernel
theorem dX10_steps_0 : decode cX10_steps 0 = .ok (.iload_n 1, 1) := by decide +kernel
theorem dX10_steps_1 : decode cX10_steps 1 = .ok (.invokestatic 92, 3) := by decide +kernel
theorem dX10_steps_4 : decode cX10_steps 4 = .ok (.ifCond .eq 19, 3) := by decide +kernel
theorem dX10_steps_7 : decode cX10_steps 7 = .ok (.iload_n 2, 1) := by decide +kernel
theorem dX10_steps_8 : decode cX10_steps 8 = .ok (.invokestatic 111, 3) := by decide +kernel
theorem dX10_steps_11 : decode cX10_steps 11 = .ok (.ifCond .eq 12, 3) := by decide +kernel
theorem dX10_steps_14 : decode cX10_steps 14 = .ok (.aload_n 0, 1) := by decide +kernel
theorem dX10_steps_15 : decode cX10_steps 15 = .ok (.iload_n 1, 1) := by decide +kernel
theorem dX10_steps_16 : decode cX10_steps 16 = .ok (.iload_n 2, 1) := by decide +kernel
theorem dX10_steps_17 : decode cX10_steps 17 = .ok (.invokevirtual 107, 3) := by decide +kernel
theorem dX10_steps_20 : decode cX10_steps 20 = .ok (.goto 4, 3) := by decide +kernel
theorem dX10_steps_23 : decode cX10_steps 23 = .ok (.iconst (-1), 1) := by decide +kernel
theorem dX10_steps_24 : decode cX10_steps 24 = .ok (.ireturn, 1) := by decide +kernel
theorem dX10_common_0 : decode cX10_common 0 = .ok (.iload_n 1, 1) := by decide +kernel
theorem dX10_common_1 : decode cX10_common 1 = .ok (.invokestatic 92, 3) := by decide +kernel
theorem dX10_common_4 : decode cX10_common 4 = .ok (.ifCond .eq 10, 3) := by decide +kernel
theorem dX10_common_7 : decode cX10_common 7 = .ok (.iload_n 2, 1) := by decide +kernel
theorem dX10_common_8 : decode cX10_common 8 = .ok (.invokestatic 92, 3) := by decide +kernel
theorem dX10_common_11 : decode cX10_common 11 = .ok (.ifCond .ne 5, 3) := by decide +kernel
theorem dX10_common_14 : decode cX10_common 14 = .ok (.iconst (-1), 1) := by decide +kernel
theorem dX10_common_15 : decode cX10_common 15 = .ok (.ireturn, 1) := by decide +kernel
theorem dX10_common_16 : decode cX10_common 16 = .ok (.iload_n 1, 1) := by decide +kernel
theorem dX10_common_17 : decode cX10_common 17 = .ok (.istore_n 3, 1) := by decide +kernel
theorem dX10_common_18 : decode cX10_common 18 = .ok (.aload_n 0, 1) := by decide +kernel
theorem dX10_common_19 : decode cX10_common 19 = .ok (.iload_n 2, 1) := by decide +kernel
theorem dX10_common_20 : decode cX10_common 20 = .ok (.iload_n 3, 1) := by decide +kernel
theorem dX10_common_21 : decode cX10_common 21 = .ok (.invokevirtual 107, 3) := by decide +kernel
theorem dX10_common_24 : decode cX10_common 24 = .ok (.iconst (-1), 1) := by decide +kernel
theorem dX10_common_25 : decode cX10_common 25 = .ok (.if_icmp .ne 13, 3) := by decide +kernel
theorem dX10_common_28 : decode cX10_common 28 = .ok (.aload_n 0, 1) := by decide +kernel
theorem dX10_common_29 : decode cX10_common 29 = .ok (.getfield 7, 3) := by decide +kernel
theorem dX10_common_32 : decode cX10_common 32 = .ok (.iload_n 3, 1) := by decide +kernel
theorem dX10_common_33 : decode cX10_common 33 = .ok (.iaload, 1) := by decide +kernel
theorem dX10_common_34 : decode cX10_common 34 = .ok (.istore_n 3, 1) := by decide +kernel
theorem dX10_common_35 : decode cX10_common 35 = .ok (.goto (-17), 3) := by decide +kernel
theorem dX10_common_38 : decode cX10_common 38 = .ok (.iload_n 3, 1) := by decide +kernel
theorem dX10_common_39 : decode cX10_common 39 = .ok (.ireturn, 1) := by decide +kernel
theorem dX10_isShared_0 : decode cX10_isShared 0 = .ok (.aload_n 0, 1) := by decide +kernel
theorem dX10_isShared_1 : decode cX10_isShared 1 = .ok (.iload_n 3, 1) := by decide +kernel
theorem dX10_isShared_2 : decode cX10_isShared 2 = .ok (.iload_n 1, 1) := by decide +kernel
theorem dX10_isShared_3 : decode cX10_isShared 3 = .ok (.invokevirtual 114, 3) := by decide +kernel
theorem dX10_isShared_6 : decode cX10_isShared 6 = .ok (.ifCond .eq 16, 3) := by decide +kernel
theorem dX10_isShared_9 : decode cX10_isShared 9 = .ok (.aload_n 0, 1) := by decide +kernel
theorem dX10_isShared_10 : decode cX10_isShared 10 = .ok (.iload_n 3, 1) := by decide +kernel
theorem dX10_isShared_11 : decode cX10_isShared 11 = .ok (.iload_n 2, 1) := by decide +kernel
theorem dX10_isShared_12 : decode cX10_isShared 12 = .ok (.invokevirtual 114, 3) := by decide +kernel
theorem dX10_isShared_15 : decode cX10_isShared 15 = .ok (.ifCond .eq 7, 3) := by decide +kernel
theorem dX10_isShared_18 : decode cX10_isShared 18 = .ok (.iconst 1, 1) := by decide +kernel
theorem dX10_isShared_19 : decode cX10_isShared 19 = .ok (.goto 4, 3) := by decide +kernel
theorem dX10_isShared_22 : decode cX10_isShared 22 = .ok (.iconst 0, 1) := by decide +kernel
theorem dX10_isShared_23 : decode cX10_isShared 23 = .ok (.ireturn, 1) := by decide +kernel
theorem dX10_commonTrait_0 : decode cX10_commonTrait 0 = .ok (.iload_n 1, 1) := by decide +kernel
theorem dX10_commonTrait_1 : decode cX10_commonTrait 1 = .ok (.invokestatic 92, 3) := by decide +kernel
theorem dX10_commonTrait_4 : decode cX10_commonTrait 4 = .ok (.ifCond .eq 14, 3) := by decide +kernel
theorem dX10_commonTrait_7 : decode cX10_commonTrait 7 = .ok (.iload_n 2, 1) := by decide +kernel
theorem dX10_commonTrait_8 : decode cX10_commonTrait 8 = .ok (.invokestatic 92, 3) := by decide +kernel
theorem dX10_commonTrait_11 : decode cX10_commonTrait 11 = .ok (.ifCond .eq 7, 3) := by decide +kernel
theorem dX10_commonTrait_14 : decode cX10_commonTrait 14 = .ok (.iload_n 3, 1) := by decide +kernel
theorem dX10_commonTrait_15 : decode cX10_commonTrait 15 = .ok (.ifCond .ge 5, 3) := by decide +kernel
theorem dX10_commonTrait_18 : decode cX10_commonTrait 18 = .ok (.iconst (-1), 1) := by decide +kernel
theorem dX10_commonTrait_19 : decode cX10_commonTrait 19 = .ok (.ireturn, 1) := by decide +kernel
theorem dX10_commonTrait_20 : decode cX10_commonTrait 20 = .ok (.iload_n 3, 1) := by decide +kernel
theorem dX10_commonTrait_21 : decode cX10_commonTrait 21 = .ok (.istore 4, 2) := by decide +kernel
theorem dX10_commonTrait_23 : decode cX10_commonTrait 23 = .ok (.bipush 40, 2) := by decide +kernel
theorem dX10_commonTrait_25 : decode cX10_commonTrait 25 = .ok (.istore 5, 2) := by decide +kernel
theorem dX10_commonTrait_27 : decode cX10_commonTrait 27 = .ok (.iload 5, 2) := by decide +kernel
theorem dX10_commonTrait_29 : decode cX10_commonTrait 29 = .ok (.bipush 49, 2) := by decide +kernel
theorem dX10_commonTrait_31 : decode cX10_commonTrait 31 = .ok (.if_icmp .ge 96, 3) := by decide +kernel
theorem dX10_commonTrait_34 : decode cX10_commonTrait 34 = .ok (.aload_n 0, 1) := by decide +kernel
theorem dX10_commonTrait_35 : decode cX10_commonTrait 35 = .ok (.iload_n 1, 1) := by decide +kernel
theorem dX10_commonTrait_36 : decode cX10_commonTrait 36 = .ok (.iload_n 2, 1) := by decide +kernel
theorem dX10_commonTrait_37 : decode cX10_commonTrait 37 = .ok (.iload 5, 2) := by decide +kernel
theorem dX10_commonTrait_39 : decode cX10_commonTrait 39 = .ok (.invokevirtual 117, 3) := by decide +kernel
theorem dX10_commonTrait_42 : decode cX10_commonTrait 42 = .ok (.istore 6, 2) := by decide +kernel
theorem dX10_commonTrait_44 : decode cX10_commonTrait 44 = .ok (.bipush 40, 2) := by decide +kernel
theorem dX10_commonTrait_46 : decode cX10_commonTrait 46 = .ok (.istore 7, 2) := by decide +kernel
theorem dX10_commonTrait_48 : decode cX10_commonTrait 48 = .ok (.iload 7, 2) := by decide +kernel
theorem dX10_commonTrait_50 : decode cX10_commonTrait 50 = .ok (.bipush 49, 2) := by decide +kernel
theorem dX10_commonTrait_52 : decode cX10_commonTrait 52 = .ok (.if_icmp .ge 50, 3) := by decide +kernel
theorem dX10_commonTrait_55 : decode cX10_commonTrait 55 = .ok (.iload 6, 2) := by decide +kernel
theorem dX10_commonTrait_57 : decode cX10_commonTrait 57 = .ok (.ifCond .eq 36, 3) := by decide +kernel
theorem dX10_commonTrait_60 : decode cX10_commonTrait 60 = .ok (.iload 7, 2) := by decide +kernel
theorem dX10_commonTrait_62 : decode cX10_commonTrait 62 = .ok (.iload 5, 2) := by decide +kernel
theorem dX10_commonTrait_64 : decode cX10_commonTrait 64 = .ok (.if_icmp .eq 25, 3) := by decide +kernel
theorem dX10_commonTrait_67 : decode cX10_commonTrait 67 = .ok (.aload_n 0, 1) := by decide +kernel
theorem dX10_commonTrait_68 : decode cX10_commonTrait 68 = .ok (.iload_n 1, 1) := by decide +kernel
theorem dX10_commonTrait_69 : decode cX10_commonTrait 69 = .ok (.iload_n 2, 1) := by decide +kernel
theorem dX10_commonTrait_70 : decode cX10_commonTrait 70 = .ok (.iload 7, 2) := by decide +kernel
theorem dX10_commonTrait_72 : decode cX10_commonTrait 72 = .ok (.invokevirtual 117, 3) := by decide +kernel
theorem dX10_commonTrait_75 : decode cX10_commonTrait 75 = .ok (.ifCond .eq 14, 3) := by decide +kernel
theorem dX10_commonTrait_78 : decode cX10_commonTrait 78 = .ok (.aload_n 0, 1) := by decide +kernel
theorem dX10_commonTrait_79 : decode cX10_commonTrait 79 = .ok (.iload 5, 2) := by decide +kernel
theorem dX10_commonTrait_81 : decode cX10_commonTrait 81 = .ok (.iload 7, 2) := by decide +kernel
theorem dX10_commonTrait_83 : decode cX10_commonTrait 83 = .ok (.invokevirtual 103, 3) := by decide +kernel
theorem dX10_commonTrait_86 : decode cX10_commonTrait 86 = .ok (.ifCond .ne 7, 3) := by decide +kernel
theorem dX10_commonTrait_89 : decode cX10_commonTrait 89 = .ok (.iconst 1, 1) := by decide +kernel
theorem dX10_commonTrait_90 : decode cX10_commonTrait 90 = .ok (.goto 4, 3) := by decide +kernel
theorem dX10_commonTrait_93 : decode cX10_commonTrait 93 = .ok (.iconst 0, 1) := by decide +kernel
theorem dX10_commonTrait_94 : decode cX10_commonTrait 94 = .ok (.istore 6, 2) := by decide +kernel
theorem dX10_commonTrait_96 : decode cX10_commonTrait 96 = .ok (.iinc 7 1, 3) := by decide +kernel
theorem dX10_commonTrait_99 : decode cX10_commonTrait 99 = .ok (.goto (-51), 3) := by decide +kernel
theorem dX10_commonTrait_102 : decode cX10_commonTrait 102 = .ok (.iload 6, 2) := by decide +kernel
theorem dX10_commonTrait_104 : decode cX10_commonTrait 104 = .ok (.ifCond .ne 6, 3) := by decide +kernel
theorem dX10_commonTrait_107 : decode cX10_commonTrait 107 = .ok (.goto 14, 3) := by decide +kernel
theorem dX10_commonTrait_110 : decode cX10_commonTrait 110 = .ok (.iload 4, 2) := by decide +kernel
theorem dX10_commonTrait_112 : decode cX10_commonTrait 112 = .ok (.ifCond .ne 6, 3) := by decide +kernel
theorem dX10_commonTrait_115 : decode cX10_commonTrait 115 = .ok (.iload 5, 2) := by decide +kernel
theorem dX10_commonTrait_117 : decode cX10_commonTrait 117 = .ok (.ireturn, 1) := by decide +kernel
theorem dX10_commonTrait_118 : decode cX10_commonTrait 118 = .ok (.iinc 4 (-1), 3) := by decide +kernel
theorem dX10_commonTrait_121 : decode cX10_commonTrait 121 = .ok (.iinc 5 1, 3) := by decide +kernel
theorem dX10_commonTrait_124 : decode cX10_commonTrait 124 = .ok (.goto (-97), 3) := by decide +kernel
theorem dX10_commonTrait_127 : decode cX10_commonTrait 127 = .ok (.iconst (-1), 1) := by decide +kernel
theorem dX10_commonTrait_128 : decode cX10_commonTrait 128 = .ok (.ireturn, 1) := by decide +kernel
theorem dX10_make_0 : decode cX10_make 0 = .ok (.iload_n 1, 1) := by decide +kernel
theorem dX10_make_1 : decode cX10_make 1 = .ok (.invokestatic 92, 3) := by decide +kernel
theorem dX10_make_4 : decode cX10_make 4 = .ok (.ifCond .eq 41, 3) := by decide +kernel
theorem dX10_make_7 : decode cX10_make 7 = .ok (.aload_n 0, 1) := by decide +kernel
theorem dX10_make_8 : decode cX10_make 8 = .ok (.iload_n 1, 1) := by decide +kernel
theorem dX10_make_9 : decode cX10_make 9 = .ok (.invokevirtual 120, 3) := by decide +kernel
theorem dX10_make_12 : decode cX10_make 12 = .ok (.ifCond .ne 33, 3) := by decide +kernel
theorem dX10_make_15 : decode cX10_make 15 = .ok (.iload_n 2, 1) := by decide +kernel
theorem dX10_make_16 : decode cX10_make 16 = .ok (.iconst 0, 1) := by decide +kernel
theorem dX10_make_17 : decode cX10_make 17 = .ok (.ldc 123, 2) := by decide +kernel
theorem dX10_make_19 : decode cX10_make 19 = .ok (.invokestatic 88, 3) := by decide +kernel
theorem dX10_make_22 : decode cX10_make 22 = .ok (.ifCond .eq 23, 3) := by decide +kernel
theorem dX10_make_25 : decode cX10_make 25 = .ok (.iload_n 3, 1) := by decide +kernel
theorem dX10_make_26 : decode cX10_make 26 = .ok (.iconst 0, 1) := by decide +kernel
theorem dX10_make_27 : decode cX10_make 27 = .ok (.ldc 123, 2) := by decide +kernel
theorem dX10_make_29 : decode cX10_make 29 = .ok (.invokestatic 88, 3) := by decide +kernel
theorem dX10_make_32 : decode cX10_make 32 = .ok (.ifCond .eq 13, 3) := by decide +kernel
theorem dX10_make_35 : decode cX10_make 35 = .ok (.aload_n 0, 1) := by decide +kernel
theorem dX10_make_36 : decode cX10_make 36 = .ok (.getfield 99, 3) := by decide +kernel
theorem dX10_make_39 : decode cX10_make 39 = .ok (.sipush 300, 3) := by decide +kernel
theorem dX10_make_42 : decode cX10_make 42 = .ok (.if_icmp .ne 5, 3) := by decide +kernel
theorem dX10_make_45 : decode cX10_make 45 = .ok (.iconst (-1), 1) := by decide +kernel
theorem dX10_make_46 : decode cX10_make 46 = .ok (.ireturn, 1) := by decide +kernel
theorem dX10_make_47 : decode cX10_make 47 = .ok (.aload_n 0, 1) := by decide +kernel
theorem dX10_make_48 : decode cX10_make 48 = .ok (.getfield 99, 3) := by decide +kernel
theorem dX10_make_51 : decode cX10_make 51 = .ok (.istore 4, 2) := by decide +kernel
theorem dX10_make_53 : decode cX10_make 53 = .ok (.aload_n 0, 1) := by decide +kernel
theorem dX10_make_54 : decode cX10_make 54 = .ok (.getfield 28, 3) := by decide +kernel
theorem dX10_make_57 : decode cX10_make 57 = .ok (.iload 4, 2) := by decide +kernel
theorem dX10_make_59 : decode cX10_make 59 = .ok (.iload_n 1, 1) := by decide +kernel
theorem dX10_make_60 : decode cX10_make 60 = .ok (.iastore, 1) := by decide +kernel
theorem dX10_make_61 : decode cX10_make 61 = .ok (.aload_n 0, 1) := by decide +kernel
theorem dX10_make_62 : decode cX10_make 62 = .ok (.getfield 31, 3) := by decide +kernel
theorem dX10_make_65 : decode cX10_make 65 = .ok (.iload 4, 2) := by decide +kernel
theorem dX10_make_67 : decode cX10_make 67 = .ok (.iload_n 2, 1) := by decide +kernel
theorem dX10_make_68 : decode cX10_make 68 = .ok (.iastore, 1) := by decide +kernel
theorem dX10_make_69 : decode cX10_make 69 = .ok (.aload_n 0, 1) := by decide +kernel
theorem dX10_make_70 : decode cX10_make 70 = .ok (.getfield 34, 3) := by decide +kernel
theorem dX10_make_73 : decode cX10_make 73 = .ok (.iload 4, 2) := by decide +kernel
theorem dX10_make_75 : decode cX10_make 75 = .ok (.iload_n 3, 1) := by decide +kernel
theorem dX10_make_76 : decode cX10_make 76 = .ok (.iastore, 1) := by decide +kernel
theorem dX10_make_77 : decode cX10_make 77 = .ok (.aload_n 0, 1) := by decide +kernel
theorem dX10_make_78 : decode cX10_make 78 = .ok (.getfield 37, 3) := by decide +kernel
theorem dX10_make_81 : decode cX10_make 81 = .ok (.iload 4, 2) := by decide +kernel
theorem dX10_make_83 : decode cX10_make 83 = .ok (.iconst (-1), 1) := by decide +kernel
theorem dX10_make_84 : decode cX10_make 84 = .ok (.iastore, 1) := by decide +kernel
theorem dX10_make_85 : decode cX10_make 85 = .ok (.aload_n 0, 1) := by decide +kernel
theorem dX10_make_86 : decode cX10_make 86 = .ok (.getfield 40, 3) := by decide +kernel
theorem dX10_make_89 : decode cX10_make 89 = .ok (.iload 4, 2) := by decide +kernel
theorem dX10_make_91 : decode cX10_make 91 = .ok (.iconst (-1), 1) := by decide +kernel
theorem dX10_make_92 : decode cX10_make 92 = .ok (.iastore, 1) := by decide +kernel
theorem dX10_make_93 : decode cX10_make 93 = .ok (.aload_n 0, 1) := by decide +kernel
theorem dX10_make_94 : decode cX10_make 94 = .ok (.getfield 43, 3) := by decide +kernel
theorem dX10_make_97 : decode cX10_make 97 = .ok (.iload 4, 2) := by decide +kernel
theorem dX10_make_99 : decode cX10_make 99 = .ok (.iconst (-1), 1) := by decide +kernel
theorem dX10_make_100 : decode cX10_make 100 = .ok (.iastore, 1) := by decide +kernel
theorem dX10_make_101 : decode cX10_make 101 = .ok (.aload_n 0, 1) := by decide +kernel
theorem dX10_make_102 : decode cX10_make 102 = .ok (.getfield 46, 3) := by decide +kernel
theorem dX10_make_105 : decode cX10_make 105 = .ok (.iload 4, 2) := by decide +kernel
theorem dX10_make_107 : decode cX10_make 107 = .ok (.iconst (-1), 1) := by decide +kernel
theorem dX10_make_108 : decode cX10_make 108 = .ok (.iastore, 1) := by decide +kernel
theorem dX10_make_109 : decode cX10_make 109 = .ok (.aload_n 0, 1) := by decide +kernel
theorem dX10_make_110 : decode cX10_make 110 = .ok (.getfield 49, 3) := by decide +kernel
theorem dX10_make_113 : decode cX10_make 113 = .ok (.iload 4, 2) := by decide +kernel
theorem dX10_make_115 : decode cX10_make 115 = .ok (.iconst (-1), 1) := by decide +kernel
theorem dX10_make_116 : decode cX10_make 116 = .ok (.iastore, 1) := by decide +kernel
theorem dX10_make_117 : decode cX10_make 117 = .ok (.aload_n 0, 1) := by decide +kernel
theorem dX10_make_118 : decode cX10_make 118 = .ok (.getfield 52, 3) := by decide +kernel
theorem dX10_make_121 : decode cX10_make 121 = .ok (.iload 4, 2) := by decide +kernel
theorem dX10_make_123 : decode cX10_make 123 = .ok (.iconst (-1), 1) := by decide +kernel
theorem dX10_make_124 : decode cX10_make 124 = .ok (.iastore, 1) := by decide +kernel
theorem dX10_make_125 : decode cX10_make 125 = .ok (.aload_n 0, 1) := by decide +kernel
theorem dX10_make_126 : decode cX10_make 126 = .ok (.getfield 55, 3) := by decide +kernel
theorem dX10_make_129 : decode cX10_make 129 = .ok (.iload 4, 2) := by decide +kernel
theorem dX10_make_131 : decode cX10_make 131 = .ok (.iconst (-1), 1) := by decide +kernel
theorem dX10_make_132 : decode cX10_make 132 = .ok (.iastore, 1) := by decide +kernel
theorem dX10_make_133 : decode cX10_make 133 = .ok (.aload_n 0, 1) := by decide +kernel
theorem dX10_make_134 : decode cX10_make 134 = .ok (.dup, 1) := by decide +kernel
theorem dX10_make_135 : decode cX10_make 135 = .ok (.getfield 99, 3) := by decide +kernel
theorem dX10_make_138 : decode cX10_make 138 = .ok (.iconst 1, 1) := by decide +kernel
theorem dX10_make_139 : decode cX10_make 139 = .ok (.iadd, 1) := by decide +kernel
theorem dX10_make_140 : decode cX10_make 140 = .ok (.putfield 99, 3) := by decide +kernel
theorem dX10_make_143 : decode cX10_make 143 = .ok (.iload 4, 2) := by decide +kernel
theorem dX10_make_145 : decode cX10_make 145 = .ok (.ireturn, 1) := by decide +kernel
theorem dX10_caseOf_0 : decode cX10_caseOf 0 = .ok (.iload_n 1, 1) := by decide +kernel
theorem dX10_caseOf_1 : decode cX10_caseOf 1 = .ok (.invokestatic 92, 3) := by decide +kernel
theorem dX10_caseOf_4 : decode cX10_caseOf 4 = .ok (.ifCond .eq 22, 3) := by decide +kernel
theorem dX10_caseOf_7 : decode cX10_caseOf 7 = .ok (.iload_n 2, 1) := by decide +kernel
theorem dX10_caseOf_8 : decode cX10_caseOf 8 = .ok (.iconst 1, 1) := by decide +kernel
theorem dX10_caseOf_9 : decode cX10_caseOf 9 = .ok (.bipush 20, 2) := by decide +kernel
theorem dX10_caseOf_11 : decode cX10_caseOf 11 = .ok (.invokestatic 88, 3) := by decide +kernel
theorem dX10_caseOf_14 : decode cX10_caseOf 14 = .ok (.ifCond .eq 12, 3) := by decide +kernel
theorem dX10_caseOf_17 : decode cX10_caseOf 17 = .ok (.aload_n 0, 1) := by decide +kernel
theorem dX10_caseOf_18 : decode cX10_caseOf 18 = .ok (.getfield 124, 3) := by decide +kernel
theorem dX10_caseOf_21 : decode cX10_caseOf 21 = .ok (.bipush 40, 2) := by decide +kernel
theorem dX10_caseOf_23 : decode cX10_caseOf 23 = .ok (.if_icmp .ne 5, 3) := by decide +kernel
theorem dX10_caseOf_26 : decode cX10_caseOf 26 = .ok (.iconst (-1), 1) := by decide +kernel
theorem dX10_caseOf_27 : decode cX10_caseOf 27 = .ok (.ireturn, 1) := by decide +kernel
theorem dX10_caseOf_28 : decode cX10_caseOf 28 = .ok (.aload_n 0, 1) := by decide +kernel
theorem dX10_caseOf_29 : decode cX10_caseOf 29 = .ok (.getfield 58, 3) := by decide +kernel
theorem dX10_caseOf_32 : decode cX10_caseOf 32 = .ok (.aload_n 0, 1) := by decide +kernel
theorem dX10_caseOf_33 : decode cX10_caseOf 33 = .ok (.getfield 124, 3) := by decide +kernel
theorem dX10_caseOf_36 : decode cX10_caseOf 36 = .ok (.iload_n 1, 1) := by decide +kernel
theorem dX10_caseOf_37 : decode cX10_caseOf 37 = .ok (.iastore, 1) := by decide +kernel
theorem dX10_caseOf_38 : decode cX10_caseOf 38 = .ok (.aload_n 0, 1) := by decide +kernel
theorem dX10_caseOf_39 : decode cX10_caseOf 39 = .ok (.getfield 61, 3) := by decide +kernel
theorem dX10_caseOf_42 : decode cX10_caseOf 42 = .ok (.aload_n 0, 1) := by decide +kernel
theorem dX10_caseOf_43 : decode cX10_caseOf 43 = .ok (.getfield 124, 3) := by decide +kernel
theorem dX10_caseOf_46 : decode cX10_caseOf 46 = .ok (.iload_n 2, 1) := by decide +kernel
theorem dX10_caseOf_47 : decode cX10_caseOf 47 = .ok (.iastore, 1) := by decide +kernel
theorem dX10_caseOf_48 : decode cX10_caseOf 48 = .ok (.aload_n 0, 1) := by decide +kernel
theorem dX10_caseOf_49 : decode cX10_caseOf 49 = .ok (.dup, 1) := by decide +kernel
theorem dX10_caseOf_50 : decode cX10_caseOf 50 = .ok (.getfield 124, 3) := by decide +kernel
theorem dX10_caseOf_53 : decode cX10_caseOf 53 = .ok (.iconst 1, 1) := by decide +kernel
theorem dX10_caseOf_54 : decode cX10_caseOf 54 = .ok (.iadd, 1) := by decide +kernel
theorem dX10_caseOf_55 : decode cX10_caseOf 55 = .ok (.putfield 124, 3) := by decide +kernel
theorem dX10_caseOf_58 : decode cX10_caseOf 58 = .ok (.aload_n 0, 1) := by decide +kernel
theorem dX10_caseOf_59 : decode cX10_caseOf 59 = .ok (.getfield 124, 3) := by decide +kernel
theorem dX10_caseOf_62 : decode cX10_caseOf 62 = .ok (.iconst 1, 1) := by decide +kernel
theorem dX10_caseOf_63 : decode cX10_caseOf 63 = .ok (.isub, 1) := by decide +kernel
theorem dX10_caseOf_64 : decode cX10_caseOf 64 = .ok (.ireturn, 1) := by decide +kernel
theorem dX10_isPlace_0 : decode cX10_isPlace 0 = .ok (.iload_n 1, 1) := by decide +kernel
theorem dX10_isPlace_1 : decode cX10_isPlace 1 = .ok (.iconst 0, 1) := by decide +kernel
theorem dX10_isPlace_2 : decode cX10_isPlace 2 = .ok (.aload_n 0, 1) := by decide +kernel
theorem dX10_isPlace_3 : decode cX10_isPlace 3 = .ok (.getfield 124, 3) := by decide +kernel
theorem dX10_isPlace_6 : decode cX10_isPlace 6 = .ok (.iconst 1, 1) := by decide +kernel
theorem dX10_isPlace_7 : decode cX10_isPlace 7 = .ok (.isub, 1) := by decide +kernel
theorem dX10_isPlace_8 : decode cX10_isPlace 8 = .ok (.invokestatic 88, 3) := by decide +kernel
theorem dX10_isPlace_11 : decode cX10_isPlace 11 = .ok (.ifCond .eq 23, 3) := by decide +kernel
theorem dX10_isPlace_14 : decode cX10_isPlace 14 = .ok (.iload_n 2, 1) := by decide +kernel
theorem dX10_isPlace_15 : decode cX10_isPlace 15 = .ok (.iconst 0, 1) := by decide +kernel
theorem dX10_isPlace_16 : decode cX10_isPlace 16 = .ok (.aload_n 0, 1) := by decide +kernel
theorem dX10_isPlace_17 : decode cX10_isPlace 17 = .ok (.getfield 61, 3) := by decide +kernel
theorem dX10_isPlace_20 : decode cX10_isPlace 20 = .ok (.iload_n 1, 1) := by decide +kernel
theorem dX10_isPlace_21 : decode cX10_isPlace 21 = .ok (.iaload, 1) := by decide +kernel
theorem dX10_isPlace_22 : decode cX10_isPlace 22 = .ok (.iconst 1, 1) := by decide +kernel
theorem dX10_isPlace_23 : decode cX10_isPlace 23 = .ok (.isub, 1) := by decide +kernel
theorem dX10_isPlace_24 : decode cX10_isPlace 24 = .ok (.invokestatic 88, 3) := by decide +kernel
theorem dX10_isPlace_27 : decode cX10_isPlace 27 = .ok (.ifCond .eq 7, 3) := by decide +kernel
theorem dX10_isPlace_30 : decode cX10_isPlace 30 = .ok (.iconst 1, 1) := by decide +kernel
theorem dX10_isPlace_31 : decode cX10_isPlace 31 = .ok (.goto 4, 3) := by decide +kernel
theorem dX10_isPlace_34 : decode cX10_isPlace 34 = .ok (.iconst 0, 1) := by decide +kernel
theorem dX10_isPlace_35 : decode cX10_isPlace 35 = .ok (.ireturn, 1) := by decide +kernel
theorem dX10_placed_0 : decode cX10_placed 0 = .ok (.aload_n 0, 1) := by decide +kernel
theorem dX10_placed_1 : decode cX10_placed 1 = .ok (.iload_n 1, 1) := by decide +kernel
theorem dX10_placed_2 : decode cX10_placed 2 = .ok (.iload_n 2, 1) := by decide +kernel
theorem dX10_placed_3 : decode cX10_placed 3 = .ok (.invokevirtual 127, 3) := by decide +kernel
theorem dX10_placed_6 : decode cX10_placed 6 = .ok (.ifCond .ne 5, 3) := by decide +kernel
theorem dX10_placed_9 : decode cX10_placed 9 = .ok (.iconst (-1), 1) := by decide +kernel
theorem dX10_placed_10 : decode cX10_placed 10 = .ok (.ireturn, 1) := by decide +kernel
theorem dX10_placed_11 : decode cX10_placed 11 = .ok (.iconst 0, 1) := by decide +kernel
theorem dX10_placed_12 : decode cX10_placed 12 = .ok (.istore_n 3, 1) := by decide +kernel
theorem dX10_placed_13 : decode cX10_placed 13 = .ok (.iload_n 3, 1) := by decide +kernel
theorem dX10_placed_14 : decode cX10_placed 14 = .ok (.aload_n 0, 1) := by decide +kernel
theorem dX10_placed_15 : decode cX10_placed 15 = .ok (.getfield 99, 3) := by decide +kernel
theorem dX10_placed_18 : decode cX10_placed 18 = .ok (.if_icmp .ge 31, 3) := by decide +kernel
theorem dX10_placed_21 : decode cX10_placed 21 = .ok (.aload_n 0, 1) := by decide +kernel
theorem dX10_placed_22 : decode cX10_placed 22 = .ok (.getfield 37, 3) := by decide +kernel
theorem dX10_placed_25 : decode cX10_placed 25 = .ok (.iload_n 3, 1) := by decide +kernel
theorem dX10_placed_26 : decode cX10_placed 26 = .ok (.iaload, 1) := by decide +kernel
theorem dX10_placed_27 : decode cX10_placed 27 = .ok (.iload_n 1, 1) := by decide +kernel
theorem dX10_placed_28 : decode cX10_placed 28 = .ok (.if_icmp .ne 15, 3) := by decide +kernel
theorem dX10_placed_31 : decode cX10_placed 31 = .ok (.aload_n 0, 1) := by decide +kernel
theorem dX10_placed_32 : decode cX10_placed 32 = .ok (.getfield 40, 3) := by decide +kernel
theorem dX10_placed_35 : decode cX10_placed 35 = .ok (.iload_n 3, 1) := by decide +kernel
theorem dX10_placed_36 : decode cX10_placed 36 = .ok (.iaload, 1) := by decide +kernel
theorem dX10_placed_37 : decode cX10_placed 37 = .ok (.iload_n 2, 1) := by decide +kernel
theorem dX10_placed_38 : decode cX10_placed 38 = .ok (.if_icmp .ne 5, 3) := by decide +kernel
theorem dX10_placed_41 : decode cX10_placed 41 = .ok (.iload_n 3, 1) := by decide +kernel
theorem dX10_placed_42 : decode cX10_placed 42 = .ok (.ireturn, 1) := by decide +kernel
theorem dX10_placed_43 : decode cX10_placed 43 = .ok (.iinc 3 1, 3) := by decide +kernel
theorem dX10_placed_46 : decode cX10_placed 46 = .ok (.goto (-33), 3) := by decide +kernel
theorem dX10_placed_49 : decode cX10_placed 49 = .ok (.iconst (-1), 1) := by decide +kernel
theorem dX10_placed_50 : decode cX10_placed 50 = .ok (.ireturn, 1) := by decide +kernel
theorem dX10_putIn_0 : decode cX10_putIn 0 = .ok (.aload_n 0, 1) := by decide +kernel
theorem dX10_putIn_1 : decode cX10_putIn 1 = .ok (.iload_n 1, 1) := by decide +kernel
theorem dX10_putIn_2 : decode cX10_putIn 2 = .ok (.iload_n 2, 1) := by decide +kernel
theorem dX10_putIn_3 : decode cX10_putIn 3 = .ok (.invokevirtual 127, 3) := by decide +kernel
theorem dX10_putIn_6 : decode cX10_putIn 6 = .ok (.ifCond .eq 31, 3) := by decide +kernel
theorem dX10_putIn_9 : decode cX10_putIn 9 = .ok (.aload_n 0, 1) := by decide +kernel
theorem dX10_putIn_10 : decode cX10_putIn 10 = .ok (.iload_n 3, 1) := by decide +kernel
theorem dX10_putIn_11 : decode cX10_putIn 11 = .ok (.invokevirtual 130, 3) := by decide +kernel
theorem dX10_putIn_14 : decode cX10_putIn 14 = .ok (.ifCond .eq 23, 3) := by decide +kernel
theorem dX10_putIn_17 : decode cX10_putIn 17 = .ok (.aload_n 0, 1) := by decide +kernel
theorem dX10_putIn_18 : decode cX10_putIn 18 = .ok (.iload_n 1, 1) := by decide +kernel
theorem dX10_putIn_19 : decode cX10_putIn 19 = .ok (.iload_n 2, 1) := by decide +kernel
theorem dX10_putIn_20 : decode cX10_putIn 20 = .ok (.invokevirtual 133, 3) := by decide +kernel
theorem dX10_putIn_23 : decode cX10_putIn 23 = .ok (.iconst (-1), 1) := by decide +kernel
theorem dX10_putIn_24 : decode cX10_putIn 24 = .ok (.if_icmp .ne 13, 3) := by decide +kernel
theorem dX10_putIn_27 : decode cX10_putIn 27 = .ok (.aload_n 0, 1) := by decide +kernel
theorem dX10_putIn_28 : decode cX10_putIn 28 = .ok (.getfield 46, 3) := by decide +kernel
theorem dX10_putIn_31 : decode cX10_putIn 31 = .ok (.iload_n 3, 1) := by decide +kernel
theorem dX10_putIn_32 : decode cX10_putIn 32 = .ok (.iaload, 1) := by decide +kernel
theorem dX10_putIn_33 : decode cX10_putIn 33 = .ok (.iconst (-1), 1) := by decide +kernel
theorem dX10_putIn_34 : decode cX10_putIn 34 = .ok (.if_icmp .eq 5, 3) := by decide +kernel
theorem dX10_putIn_37 : decode cX10_putIn 37 = .ok (.iconst (-1), 1) := by decide +kernel
theorem dX10_putIn_38 : decode cX10_putIn 38 = .ok (.ireturn, 1) := by decide +kernel
theorem dX10_putIn_39 : decode cX10_putIn 39 = .ok (.aload_n 0, 1) := by decide +kernel
theorem dX10_putIn_40 : decode cX10_putIn 40 = .ok (.aload_n 0, 1) := by decide +kernel
theorem dX10_putIn_41 : decode cX10_putIn 41 = .ok (.getfield 58, 3) := by decide +kernel
theorem dX10_putIn_44 : decode cX10_putIn 44 = .ok (.iload_n 1, 1) := by decide +kernel
theorem dX10_putIn_45 : decode cX10_putIn 45 = .ok (.iaload, 1) := by decide +kernel
theorem dX10_putIn_46 : decode cX10_putIn 46 = .ok (.aload_n 0, 1) := by decide +kernel
theorem dX10_putIn_47 : decode cX10_putIn 47 = .ok (.getfield 28, 3) := by decide +kernel
theorem dX10_putIn_50 : decode cX10_putIn 50 = .ok (.iload_n 3, 1) := by decide +kernel
theorem dX10_putIn_51 : decode cX10_putIn 51 = .ok (.iaload, 1) := by decide +kernel
theorem dX10_putIn_52 : decode cX10_putIn 52 = .ok (.invokevirtual 114, 3) := by decide +kernel
theorem dX10_putIn_55 : decode cX10_putIn 55 = .ok (.ifCond .ne 6, 3) := by decide +kernel
theorem dX10_putIn_58 : decode cX10_putIn 58 = .ok (.bipush (-2), 2) := by decide +kernel
theorem dX10_putIn_60 : decode cX10_putIn 60 = .ok (.ireturn, 1) := by decide +kernel
theorem dX10_putIn_61 : decode cX10_putIn 61 = .ok (.aload_n 0, 1) := by decide +kernel
theorem dX10_putIn_62 : decode cX10_putIn 62 = .ok (.getfield 37, 3) := by decide +kernel
theorem dX10_putIn_65 : decode cX10_putIn 65 = .ok (.iload_n 3, 1) := by decide +kernel
theorem dX10_putIn_66 : decode cX10_putIn 66 = .ok (.iload_n 1, 1) := by decide +kernel
theorem dX10_putIn_67 : decode cX10_putIn 67 = .ok (.iastore, 1) := by decide +kernel
theorem dX10_putIn_68 : decode cX10_putIn 68 = .ok (.aload_n 0, 1) := by decide +kernel
theorem dX10_putIn_69 : decode cX10_putIn 69 = .ok (.getfield 40, 3) := by decide +kernel
theorem dX10_putIn_72 : decode cX10_putIn 72 = .ok (.iload_n 3, 1) := by decide +kernel
theorem dX10_putIn_73 : decode cX10_putIn 73 = .ok (.iload_n 2, 1) := by decide +kernel
theorem dX10_putIn_74 : decode cX10_putIn 74 = .ok (.iastore, 1) := by decide +kernel
theorem dX10_putIn_75 : decode cX10_putIn 75 = .ok (.iconst 1, 1) := by decide +kernel
theorem dX10_putIn_76 : decode cX10_putIn 76 = .ok (.ireturn, 1) := by decide +kernel
theorem dX10_takeOut_0 : decode cX10_takeOut 0 = .ok (.aload_n 0, 1) := by decide +kernel
theorem dX10_takeOut_1 : decode cX10_takeOut 1 = .ok (.iload_n 1, 1) := by decide +kernel
theorem dX10_takeOut_2 : decode cX10_takeOut 2 = .ok (.iload_n 2, 1) := by decide +kernel
theorem dX10_takeOut_3 : decode cX10_takeOut 3 = .ok (.invokevirtual 133, 3) := by decide +kernel
theorem dX10_takeOut_6 : decode cX10_takeOut 6 = .ok (.istore_n 3, 1) := by decide +kernel
theorem dX10_takeOut_7 : decode cX10_takeOut 7 = .ok (.iload_n 3, 1) := by decide +kernel
theorem dX10_takeOut_8 : decode cX10_takeOut 8 = .ok (.iconst (-1), 1) := by decide +kernel
theorem dX10_takeOut_9 : decode cX10_takeOut 9 = .ok (.if_icmp .eq 13, 3) := by decide +kernel
theorem dX10_takeOut_12 : decode cX10_takeOut 12 = .ok (.aload_n 0, 1) := by decide +kernel
theorem dX10_takeOut_13 : decode cX10_takeOut 13 = .ok (.getfield 46, 3) := by decide +kernel
theorem dX10_takeOut_16 : decode cX10_takeOut 16 = .ok (.iload_n 3, 1) := by decide +kernel
theorem dX10_takeOut_17 : decode cX10_takeOut 17 = .ok (.iaload, 1) := by decide +kernel
theorem dX10_takeOut_18 : decode cX10_takeOut 18 = .ok (.iconst (-1), 1) := by decide +kernel
theorem dX10_takeOut_19 : decode cX10_takeOut 19 = .ok (.if_icmp .eq 5, 3) := by decide +kernel
theorem dX10_takeOut_22 : decode cX10_takeOut 22 = .ok (.iconst (-1), 1) := by decide +kernel
theorem dX10_takeOut_23 : decode cX10_takeOut 23 = .ok (.ireturn, 1) := by decide +kernel
theorem dX10_takeOut_24 : decode cX10_takeOut 24 = .ok (.aload_n 0, 1) := by decide +kernel
theorem dX10_takeOut_25 : decode cX10_takeOut 25 = .ok (.getfield 37, 3) := by decide +kernel
theorem dX10_takeOut_28 : decode cX10_takeOut 28 = .ok (.iload_n 3, 1) := by decide +kernel
theorem dX10_takeOut_29 : decode cX10_takeOut 29 = .ok (.iconst (-1), 1) := by decide +kernel
theorem dX10_takeOut_30 : decode cX10_takeOut 30 = .ok (.iastore, 1) := by decide +kernel
theorem dX10_takeOut_31 : decode cX10_takeOut 31 = .ok (.aload_n 0, 1) := by decide +kernel
theorem dX10_takeOut_32 : decode cX10_takeOut 32 = .ok (.getfield 40, 3) := by decide +kernel
theorem dX10_takeOut_35 : decode cX10_takeOut 35 = .ok (.iload_n 3, 1) := by decide +kernel
theorem dX10_takeOut_36 : decode cX10_takeOut 36 = .ok (.iconst (-1), 1) := by decide +kernel
theorem dX10_takeOut_37 : decode cX10_takeOut 37 = .ok (.iastore, 1) := by decide +kernel
theorem dX10_takeOut_38 : decode cX10_takeOut 38 = .ok (.iload_n 3, 1) := by decide +kernel
theorem dX10_takeOut_39 : decode cX10_takeOut 39 = .ok (.ireturn, 1) := by decide +kernel
theorem dX10_told_0 : decode cX10_told 0 = .ok (.aload_n 0, 1) := by decide +kernel
theorem dX10_told_1 : decode cX10_told 1 = .ok (.iload_n 1, 1) := by decide +kernel
theorem dX10_told_2 : decode cX10_told 2 = .ok (.invokevirtual 130, 3) := by decide +kernel
theorem dX10_told_5 : decode cX10_told 5 = .ok (.ifCond .ne 5, 3) := by decide +kernel
theorem dX10_told_8 : decode cX10_told 8 = .ok (.iconst (-1), 1) := by decide +kernel
theorem dX10_told_9 : decode cX10_told 9 = .ok (.ireturn, 1) := by decide +kernel
theorem dX10_told_10 : decode cX10_told 10 = .ok (.iload_n 2, 1) := by decide +kernel
theorem dX10_told_11 : decode cX10_told 11 = .ok (.tableswitch 123 0 9 #[53, 60, 67, 74, 81, 88, 95, 102, 109, 116], 53) := by decide +kernel
theorem dX10_told_64 : decode cX10_told 64 = .ok (.aload_n 0, 1) := by decide +kernel
theorem dX10_told_65 : decode cX10_told 65 = .ok (.getfield 28, 3) := by decide +kernel
theorem dX10_told_68 : decode cX10_told 68 = .ok (.iload_n 1, 1) := by decide +kernel
theorem dX10_told_69 : decode cX10_told 69 = .ok (.iaload, 1) := by decide +kernel
theorem dX10_told_70 : decode cX10_told 70 = .ok (.ireturn, 1) := by decide +kernel
theorem dX10_told_71 : decode cX10_told 71 = .ok (.aload_n 0, 1) := by decide +kernel
theorem dX10_told_72 : decode cX10_told 72 = .ok (.getfield 31, 3) := by decide +kernel
theorem dX10_told_75 : decode cX10_told 75 = .ok (.iload_n 1, 1) := by decide +kernel
theorem dX10_told_76 : decode cX10_told 76 = .ok (.iaload, 1) := by decide +kernel
theorem dX10_told_77 : decode cX10_told 77 = .ok (.ireturn, 1) := by decide +kernel
theorem dX10_told_78 : decode cX10_told 78 = .ok (.aload_n 0, 1) := by decide +kernel
theorem dX10_told_79 : decode cX10_told 79 = .ok (.getfield 34, 3) := by decide +kernel
theorem dX10_told_82 : decode cX10_told 82 = .ok (.iload_n 1, 1) := by decide +kernel
theorem dX10_told_83 : decode cX10_told 83 = .ok (.iaload, 1) := by decide +kernel
theorem dX10_told_84 : decode cX10_told 84 = .ok (.ireturn, 1) := by decide +kernel
theorem dX10_told_85 : decode cX10_told 85 = .ok (.aload_n 0, 1) := by decide +kernel
theorem dX10_told_86 : decode cX10_told 86 = .ok (.getfield 37, 3) := by decide +kernel
theorem dX10_told_89 : decode cX10_told 89 = .ok (.iload_n 1, 1) := by decide +kernel
theorem dX10_told_90 : decode cX10_told 90 = .ok (.iaload, 1) := by decide +kernel
theorem dX10_told_91 : decode cX10_told 91 = .ok (.ireturn, 1) := by decide +kernel
theorem dX10_told_92 : decode cX10_told 92 = .ok (.aload_n 0, 1) := by decide +kernel
theorem dX10_told_93 : decode cX10_told 93 = .ok (.getfield 40, 3) := by decide +kernel
theorem dX10_told_96 : decode cX10_told 96 = .ok (.iload_n 1, 1) := by decide +kernel
theorem dX10_told_97 : decode cX10_told 97 = .ok (.iaload, 1) := by decide +kernel
theorem dX10_told_98 : decode cX10_told 98 = .ok (.ireturn, 1) := by decide +kernel
theorem dX10_told_99 : decode cX10_told 99 = .ok (.aload_n 0, 1) := by decide +kernel
theorem dX10_told_100 : decode cX10_told 100 = .ok (.getfield 43, 3) := by decide +kernel
theorem dX10_told_103 : decode cX10_told 103 = .ok (.iload_n 1, 1) := by decide +kernel
theorem dX10_told_104 : decode cX10_told 104 = .ok (.iaload, 1) := by decide +kernel
theorem dX10_told_105 : decode cX10_told 105 = .ok (.ireturn, 1) := by decide +kernel
theorem dX10_told_106 : decode cX10_told 106 = .ok (.aload_n 0, 1) := by decide +kernel
theorem dX10_told_107 : decode cX10_told 107 = .ok (.getfield 46, 3) := by decide +kernel
theorem dX10_told_110 : decode cX10_told 110 = .ok (.iload_n 1, 1) := by decide +kernel
theorem dX10_told_111 : decode cX10_told 111 = .ok (.iaload, 1) := by decide +kernel
theorem dX10_told_112 : decode cX10_told 112 = .ok (.ireturn, 1) := by decide +kernel
theorem dX10_told_113 : decode cX10_told 113 = .ok (.aload_n 0, 1) := by decide +kernel
theorem dX10_told_114 : decode cX10_told 114 = .ok (.getfield 49, 3) := by decide +kernel
theorem dX10_told_117 : decode cX10_told 117 = .ok (.iload_n 1, 1) := by decide +kernel
theorem dX10_told_118 : decode cX10_told 118 = .ok (.iaload, 1) := by decide +kernel
theorem dX10_told_119 : decode cX10_told 119 = .ok (.ireturn, 1) := by decide +kernel
theorem dX10_told_120 : decode cX10_told 120 = .ok (.aload_n 0, 1) := by decide +kernel
theorem dX10_told_121 : decode cX10_told 121 = .ok (.getfield 52, 3) := by decide +kernel
theorem dX10_told_124 : decode cX10_told 124 = .ok (.iload_n 1, 1) := by decide +kernel
theorem dX10_told_125 : decode cX10_told 125 = .ok (.iaload, 1) := by decide +kernel
theorem dX10_told_126 : decode cX10_told 126 = .ok (.ireturn, 1) := by decide +kernel
theorem dX10_told_127 : decode cX10_told 127 = .ok (.aload_n 0, 1) := by decide +kernel
theorem dX10_told_128 : decode cX10_told 128 = .ok (.getfield 55, 3) := by decide +kernel
theorem dX10_told_131 : decode cX10_told 131 = .ok (.iload_n 1, 1) := by decide +kernel
theorem dX10_told_132 : decode cX10_told 132 = .ok (.iaload, 1) := by decide +kernel
theorem dX10_told_133 : decode cX10_told 133 = .ok (.ireturn, 1) := by decide +kernel
theorem dX10_told_134 : decode cX10_told 134 = .ok (.iconst (-1), 1) := by decide +kernel
theorem dX10_told_135 : decode cX10_told 135 = .ok (.ireturn, 1) := by decide +kernel
theorem dX10_ruleAt_0 : decode cX10_ruleAt 0 = .ok (.aload_n 0, 1) := by decide +kernel
theorem dX10_ruleAt_1 : decode cX10_ruleAt 1 = .ok (.getfield 25, 3) := by decide +kernel
theorem dX10_ruleAt_4 : decode cX10_ruleAt 4 = .ok (.iconst 5, 1) := by decide +kernel
theorem dX10_ruleAt_5 : decode cX10_ruleAt 5 = .ok (.iload_n 1, 1) := by decide +kernel
theorem dX10_ruleAt_6 : decode cX10_ruleAt 6 = .ok (.imul, 1) := by decide +kernel
theorem dX10_ruleAt_7 : decode cX10_ruleAt 7 = .ok (.iload_n 2, 1) := by decide +kernel
theorem dX10_ruleAt_8 : decode cX10_ruleAt 8 = .ok (.iadd, 1) := by decide +kernel
theorem dX10_ruleAt_9 : decode cX10_ruleAt 9 = .ok (.iaload, 1) := by decide +kernel
theorem dX10_ruleAt_10 : decode cX10_ruleAt 10 = .ok (.ireturn, 1) := by decide +kernel
theorem dX10_rule_0 : decode cX10_rule 0 = .ok (.iload_n 1, 1) := by decide +kernel
theorem dX10_rule_1 : decode cX10_rule 1 = .ok (.invokestatic 111, 3) := by decide +kernel
theorem dX10_rule_4 : decode cX10_rule 4 = .ok (.ifCond .eq 26, 3) := by decide +kernel
theorem dX10_rule_7 : decode cX10_rule 7 = .ok (.iload_n 2, 1) := by decide +kernel
theorem dX10_rule_8 : decode cX10_rule 8 = .ok (.iconst 0, 1) := by decide +kernel
theorem dX10_rule_9 : decode cX10_rule 9 = .ok (.iconst 4, 1) := by decide +kernel
theorem dX10_rule_10 : decode cX10_rule 10 = .ok (.invokestatic 88, 3) := by decide +kernel
theorem dX10_rule_13 : decode cX10_rule 13 = .ok (.ifCond .eq 17, 3) := by decide +kernel
theorem dX10_rule_16 : decode cX10_rule 16 = .ok (.iload_n 3, 1) := by decide +kernel
theorem dX10_rule_17 : decode cX10_rule 17 = .ok (.iconst 0, 1) := by decide +kernel
theorem dX10_rule_18 : decode cX10_rule 18 = .ok (.aload_n 0, 1) := by decide +kernel
theorem dX10_rule_19 : decode cX10_rule 19 = .ok (.getfield 22, 3) := by decide +kernel
theorem dX10_rule_22 : decode cX10_rule 22 = .ok (.iload_n 2, 1) := by decide +kernel
theorem dX10_rule_23 : decode cX10_rule 23 = .ok (.iaload, 1) := by decide +kernel
theorem dX10_rule_24 : decode cX10_rule 24 = .ok (.invokestatic 88, 3) := by decide +kernel
theorem dX10_rule_27 : decode cX10_rule 27 = .ok (.ifCond .ne 5, 3) := by decide +kernel
theorem dX10_rule_30 : decode cX10_rule 30 = .ok (.iconst 0, 1) := by decide +kernel
theorem dX10_rule_31 : decode cX10_rule 31 = .ok (.ireturn, 1) := by decide +kernel
theorem dX10_rule_32 : decode cX10_rule 32 = .ok (.aload_n 0, 1) := by decide +kernel
theorem dX10_rule_33 : decode cX10_rule 33 = .ok (.getfield 25, 3) := by decide +kernel
theorem dX10_rule_36 : decode cX10_rule 36 = .ok (.iconst 5, 1) := by decide +kernel
theorem dX10_rule_37 : decode cX10_rule 37 = .ok (.iload_n 1, 1) := by decide +kernel
theorem dX10_rule_38 : decode cX10_rule 38 = .ok (.imul, 1) := by decide +kernel
theorem dX10_rule_39 : decode cX10_rule 39 = .ok (.iload_n 2, 1) := by decide +kernel
theorem dX10_rule_40 : decode cX10_rule 40 = .ok (.iadd, 1) := by decide +kernel
theorem dX10_rule_41 : decode cX10_rule 41 = .ok (.iload_n 3, 1) := by decide +kernel
theorem dX10_rule_42 : decode cX10_rule 42 = .ok (.iastore, 1) := by decide +kernel
theorem dX10_rule_43 : decode cX10_rule 43 = .ok (.iconst 1, 1) := by decide +kernel
theorem dX10_rule_44 : decode cX10_rule 44 = .ok (.ireturn, 1) := by decide +kernel
theorem dX10_unrule_0 : decode cX10_unrule 0 = .ok (.iload_n 1, 1) := by decide +kernel
theorem dX10_unrule_1 : decode cX10_unrule 1 = .ok (.invokestatic 111, 3) := by decide +kernel
theorem dX10_unrule_4 : decode cX10_unrule 4 = .ok (.ifCond .eq 22, 3) := by decide +kernel
theorem dX10_unrule_7 : decode cX10_unrule 7 = .ok (.iload_n 2, 1) := by decide +kernel
theorem dX10_unrule_8 : decode cX10_unrule 8 = .ok (.iconst 0, 1) := by decide +kernel
theorem dX10_unrule_9 : decode cX10_unrule 9 = .ok (.iconst 4, 1) := by decide +kernel
theorem dX10_unrule_10 : decode cX10_unrule 10 = .ok (.invokestatic 88, 3) := by decide +kernel
theorem dX10_unrule_13 : decode cX10_unrule 13 = .ok (.ifCond .eq 13, 3) := by decide +kernel
theorem dX10_unrule_16 : decode cX10_unrule 16 = .ok (.aload_n 0, 1) := by decide +kernel
theorem dX10_unrule_17 : decode cX10_unrule 17 = .ok (.iload_n 1, 1) := by decide +kernel
theorem dX10_unrule_18 : decode cX10_unrule 18 = .ok (.iload_n 2, 1) := by decide +kernel
theorem dX10_unrule_19 : decode cX10_unrule 19 = .ok (.invokevirtual 136, 3) := by decide +kernel
theorem dX10_unrule_22 : decode cX10_unrule 22 = .ok (.iconst (-1), 1) := by decide +kernel
theorem dX10_unrule_23 : decode cX10_unrule 23 = .ok (.if_icmp .ne 5, 3) := by decide +kernel
theorem dX10_unrule_26 : decode cX10_unrule 26 = .ok (.iconst 0, 1) := by decide +kernel
theorem dX10_unrule_27 : decode cX10_unrule 27 = .ok (.ireturn, 1) := by decide +kernel
theorem dX10_unrule_28 : decode cX10_unrule 28 = .ok (.aload_n 0, 1) := by decide +kernel
theorem dX10_unrule_29 : decode cX10_unrule 29 = .ok (.getfield 25, 3) := by decide +kernel
theorem dX10_unrule_32 : decode cX10_unrule 32 = .ok (.iconst 5, 1) := by decide +kernel
theorem dX10_unrule_33 : decode cX10_unrule 33 = .ok (.iload_n 1, 1) := by decide +kernel
theorem dX10_unrule_34 : decode cX10_unrule 34 = .ok (.imul, 1) := by decide +kernel
theorem dX10_unrule_35 : decode cX10_unrule 35 = .ok (.iload_n 2, 1) := by decide +kernel
theorem dX10_unrule_36 : decode cX10_unrule 36 = .ok (.iadd, 1) := by decide +kernel
theorem dX10_unrule_37 : decode cX10_unrule 37 = .ok (.iconst (-1), 1) := by decide +kernel
theorem dX10_unrule_38 : decode cX10_unrule 38 = .ok (.iastore, 1) := by decide +kernel
theorem dX10_unrule_39 : decode cX10_unrule 39 = .ok (.iconst 1, 1) := by decide +kernel
theorem dX10_unrule_40 : decode cX10_unrule 40 = .ok (.ireturn, 1) := by decide +kernel
theorem dX10_fewest_0 : decode cX10_fewest 0 = .ok (.iconst (-1), 1) := by decide +kernel
theorem dX10_fewest_1 : decode cX10_fewest 1 = .ok (.istore_n 3, 1) := by decide +kernel
theorem dX10_fewest_2 : decode cX10_fewest 2 = .ok (.iconst 0, 1) := by decide +kernel
theorem dX10_fewest_3 : decode cX10_fewest 3 = .ok (.istore 4, 2) := by decide +kernel
theorem dX10_fewest_5 : decode cX10_fewest 5 = .ok (.iload 4, 2) := by decide +kernel
theorem dX10_fewest_7 : decode cX10_fewest 7 = .ok (.bipush 49, 2) := by decide +kernel
theorem dX10_fewest_9 : decode cX10_fewest 9 = .ok (.if_icmp .ge 53, 3) := by decide +kernel
theorem dX10_fewest_12 : decode cX10_fewest 12 = .ok (.aload_n 0, 1) := by decide +kernel
theorem dX10_fewest_13 : decode cX10_fewest 13 = .ok (.iload 4, 2) := by decide +kernel
theorem dX10_fewest_15 : decode cX10_fewest 15 = .ok (.iload_n 2, 1) := by decide +kernel
theorem dX10_fewest_16 : decode cX10_fewest 16 = .ok (.invokevirtual 136, 3) := by decide +kernel
theorem dX10_fewest_19 : decode cX10_fewest 19 = .ok (.iconst (-1), 1) := by decide +kernel
theorem dX10_fewest_20 : decode cX10_fewest 20 = .ok (.if_icmp .ne 7, 3) := by decide +kernel
theorem dX10_fewest_23 : decode cX10_fewest 23 = .ok (.iconst (-1), 1) := by decide +kernel
theorem dX10_fewest_24 : decode cX10_fewest 24 = .ok (.goto 10, 3) := by decide +kernel
theorem dX10_fewest_27 : decode cX10_fewest 27 = .ok (.aload_n 0, 1) := by decide +kernel
theorem dX10_fewest_28 : decode cX10_fewest 28 = .ok (.iload_n 1, 1) := by decide +kernel
theorem dX10_fewest_29 : decode cX10_fewest 29 = .ok (.iload 4, 2) := by decide +kernel
theorem dX10_fewest_31 : decode cX10_fewest 31 = .ok (.invokevirtual 107, 3) := by decide +kernel
theorem dX10_fewest_34 : decode cX10_fewest 34 = .ok (.istore 5, 2) := by decide +kernel
theorem dX10_fewest_36 : decode cX10_fewest 36 = .ok (.iload 5, 2) := by decide +kernel
theorem dX10_fewest_38 : decode cX10_fewest 38 = .ok (.iconst (-1), 1) := by decide +kernel
theorem dX10_fewest_39 : decode cX10_fewest 39 = .ok (.if_icmp .eq 17, 3) := by decide +kernel
theorem dX10_fewest_42 : decode cX10_fewest 42 = .ok (.iload_n 3, 1) := by decide +kernel
theorem dX10_fewest_43 : decode cX10_fewest 43 = .ok (.iconst (-1), 1) := by decide +kernel
theorem dX10_fewest_44 : decode cX10_fewest 44 = .ok (.if_icmp .eq 9, 3) := by decide +kernel
theorem dX10_fewest_47 : decode cX10_fewest 47 = .ok (.iload 5, 2) := by decide +kernel
theorem dX10_fewest_49 : decode cX10_fewest 49 = .ok (.iload_n 3, 1) := by decide +kernel
theorem dX10_fewest_50 : decode cX10_fewest 50 = .ok (.if_icmp .ge 6, 3) := by decide +kernel
theorem dX10_fewest_53 : decode cX10_fewest 53 = .ok (.iload 5, 2) := by decide +kernel
theorem dX10_fewest_55 : decode cX10_fewest 55 = .ok (.istore_n 3, 1) := by decide +kernel
theorem dX10_fewest_56 : decode cX10_fewest 56 = .ok (.iinc 4 1, 3) := by decide +kernel
theorem dX10_fewest_59 : decode cX10_fewest 59 = .ok (.goto (-54), 3) := by decide +kernel
theorem dX10_fewest_62 : decode cX10_fewest 62 = .ok (.iload_n 3, 1) := by decide +kernel
theorem dX10_fewest_63 : decode cX10_fewest 63 = .ok (.ireturn, 1) := by decide +kernel
theorem dX10_isClose_0 : decode cX10_isClose 0 = .ok (.aload_n 0, 1) := by decide +kernel
theorem dX10_isClose_1 : decode cX10_isClose 1 = .ok (.iload_n 3, 1) := by decide +kernel
theorem dX10_isClose_2 : decode cX10_isClose 2 = .ok (.iload_n 2, 1) := by decide +kernel
theorem dX10_isClose_3 : decode cX10_isClose 3 = .ok (.invokevirtual 136, 3) := by decide +kernel
theorem dX10_isClose_6 : decode cX10_isClose 6 = .ok (.iconst (-1), 1) := by decide +kernel
theorem dX10_isClose_7 : decode cX10_isClose 7 = .ok (.if_icmp .eq 18, 3) := by decide +kernel
theorem dX10_isClose_10 : decode cX10_isClose 10 = .ok (.aload_n 0, 1) := by decide +kernel
theorem dX10_isClose_11 : decode cX10_isClose 11 = .ok (.iload_n 1, 1) := by decide +kernel
theorem dX10_isClose_12 : decode cX10_isClose 12 = .ok (.iload_n 3, 1) := by decide +kernel
theorem dX10_isClose_13 : decode cX10_isClose 13 = .ok (.invokevirtual 107, 3) := by decide +kernel
theorem dX10_isClose_16 : decode cX10_isClose 16 = .ok (.iload 4, 2) := by decide +kernel
theorem dX10_isClose_18 : decode cX10_isClose 18 = .ok (.if_icmp .ne 7, 3) := by decide +kernel
theorem dX10_isClose_21 : decode cX10_isClose 21 = .ok (.iconst 1, 1) := by decide +kernel
theorem dX10_isClose_22 : decode cX10_isClose 22 = .ok (.goto 4, 3) := by decide +kernel
theorem dX10_isClose_25 : decode cX10_isClose 25 = .ok (.iconst 0, 1) := by decide +kernel
theorem dX10_isClose_26 : decode cX10_isClose 26 = .ok (.ireturn, 1) := by decide +kernel
theorem dX10_isNearest_0 : decode cX10_isNearest 0 = .ok (.iload 4, 2) := by decide +kernel
theorem dX10_isNearest_2 : decode cX10_isNearest 2 = .ok (.iconst (-1), 1) := by decide +kernel
theorem dX10_isNearest_3 : decode cX10_isNearest 3 = .ok (.if_icmp .eq 15, 3) := by decide +kernel
theorem dX10_isNearest_6 : decode cX10_isNearest 6 = .ok (.aload_n 0, 1) := by decide +kernel
theorem dX10_isNearest_7 : decode cX10_isNearest 7 = .ok (.iload_n 1, 1) := by decide +kernel
theorem dX10_isNearest_8 : decode cX10_isNearest 8 = .ok (.iload_n 2, 1) := by decide +kernel
theorem dX10_isNearest_9 : decode cX10_isNearest 9 = .ok (.iload_n 3, 1) := by decide +kernel
theorem dX10_isNearest_10 : decode cX10_isNearest 10 = .ok (.iload 4, 2) := by decide +kernel
theorem dX10_isNearest_12 : decode cX10_isNearest 12 = .ok (.invokevirtual 139, 3) := by decide +kernel
theorem dX10_isNearest_15 : decode cX10_isNearest 15 = .ok (.ifCond .ne 5, 3) := by decide +kernel
theorem dX10_isNearest_18 : decode cX10_isNearest 18 = .ok (.iconst 0, 1) := by decide +kernel
theorem dX10_isNearest_19 : decode cX10_isNearest 19 = .ok (.ireturn, 1) := by decide +kernel
theorem dX10_isNearest_20 : decode cX10_isNearest 20 = .ok (.iload_n 3, 1) := by decide +kernel
theorem dX10_isNearest_21 : decode cX10_isNearest 21 = .ok (.invokestatic 92, 3) := by decide +kernel
theorem dX10_isNearest_24 : decode cX10_isNearest 24 = .ok (.ifCond .eq 5, 3) := by decide +kernel
theorem dX10_isNearest_27 : decode cX10_isNearest 27 = .ok (.iconst 1, 1) := by decide +kernel
theorem dX10_isNearest_28 : decode cX10_isNearest 28 = .ok (.ireturn, 1) := by decide +kernel
theorem dX10_isNearest_29 : decode cX10_isNearest 29 = .ok (.iconst 0, 1) := by decide +kernel
theorem dX10_isNearest_30 : decode cX10_isNearest 30 = .ok (.istore 5, 2) := by decide +kernel
theorem dX10_isNearest_32 : decode cX10_isNearest 32 = .ok (.iload 5, 2) := by decide +kernel
theorem dX10_isNearest_34 : decode cX10_isNearest 34 = .ok (.bipush 24, 2) := by decide +kernel
theorem dX10_isNearest_36 : decode cX10_isNearest 36 = .ok (.if_icmp .ge 24, 3) := by decide +kernel
theorem dX10_isNearest_39 : decode cX10_isNearest 39 = .ok (.aload_n 0, 1) := by decide +kernel
theorem dX10_isNearest_40 : decode cX10_isNearest 40 = .ok (.iload_n 1, 1) := by decide +kernel
theorem dX10_isNearest_41 : decode cX10_isNearest 41 = .ok (.iload_n 2, 1) := by decide +kernel
theorem dX10_isNearest_42 : decode cX10_isNearest 42 = .ok (.iload 5, 2) := by decide +kernel
theorem dX10_isNearest_44 : decode cX10_isNearest 44 = .ok (.iload 4, 2) := by decide +kernel
theorem dX10_isNearest_46 : decode cX10_isNearest 46 = .ok (.invokevirtual 139, 3) := by decide +kernel
theorem dX10_isNearest_49 : decode cX10_isNearest 49 = .ok (.ifCond .eq 5, 3) := by decide +kernel
theorem dX10_isNearest_52 : decode cX10_isNearest 52 = .ok (.iconst 0, 1) := by decide +kernel
theorem dX10_isNearest_53 : decode cX10_isNearest 53 = .ok (.ireturn, 1) := by decide +kernel
theorem dX10_isNearest_54 : decode cX10_isNearest 54 = .ok (.iinc 5 1, 3) := by decide +kernel
theorem dX10_isNearest_57 : decode cX10_isNearest 57 = .ok (.goto (-25), 3) := by decide +kernel
theorem dX10_isNearest_60 : decode cX10_isNearest 60 = .ok (.bipush 40, 2) := by decide +kernel
theorem dX10_isNearest_62 : decode cX10_isNearest 62 = .ok (.istore 5, 2) := by decide +kernel
theorem dX10_isNearest_64 : decode cX10_isNearest 64 = .ok (.iload 5, 2) := by decide +kernel
theorem dX10_isNearest_66 : decode cX10_isNearest 66 = .ok (.bipush 49, 2) := by decide +kernel
theorem dX10_isNearest_68 : decode cX10_isNearest 68 = .ok (.if_icmp .ge 40, 3) := by decide +kernel
theorem dX10_isNearest_71 : decode cX10_isNearest 71 = .ok (.iload 5, 2) := by decide +kernel
theorem dX10_isNearest_73 : decode cX10_isNearest 73 = .ok (.iload_n 3, 1) := by decide +kernel
theorem dX10_isNearest_74 : decode cX10_isNearest 74 = .ok (.if_icmp .eq 28, 3) := by decide +kernel
theorem dX10_isNearest_77 : decode cX10_isNearest 77 = .ok (.aload_n 0, 1) := by decide +kernel
theorem dX10_isNearest_78 : decode cX10_isNearest 78 = .ok (.iload_n 1, 1) := by decide +kernel
theorem dX10_isNearest_79 : decode cX10_isNearest 79 = .ok (.iload_n 2, 1) := by decide +kernel
theorem dX10_isNearest_80 : decode cX10_isNearest 80 = .ok (.iload 5, 2) := by decide +kernel
theorem dX10_isNearest_82 : decode cX10_isNearest 82 = .ok (.iload 4, 2) := by decide +kernel
theorem dX10_isNearest_84 : decode cX10_isNearest 84 = .ok (.invokevirtual 139, 3) := by decide +kernel
theorem dX10_isNearest_87 : decode cX10_isNearest 87 = .ok (.ifCond .eq 15, 3) := by decide +kernel
theorem dX10_isNearest_90 : decode cX10_isNearest 90 = .ok (.aload_n 0, 1) := by decide +kernel
theorem dX10_isNearest_91 : decode cX10_isNearest 91 = .ok (.iload_n 3, 1) := by decide +kernel
theorem dX10_isNearest_92 : decode cX10_isNearest 92 = .ok (.iload 5, 2) := by decide +kernel
theorem dX10_isNearest_94 : decode cX10_isNearest 94 = .ok (.invokevirtual 103, 3) := by decide +kernel
theorem dX10_isNearest_97 : decode cX10_isNearest 97 = .ok (.ifCond .eq 5, 3) := by decide +kernel
theorem dX10_isNearest_100 : decode cX10_isNearest 100 = .ok (.iconst 0, 1) := by decide +kernel
theorem dX10_isNearest_101 : decode cX10_isNearest 101 = .ok (.ireturn, 1) := by decide +kernel
theorem dX10_isNearest_102 : decode cX10_isNearest 102 = .ok (.iinc 5 1, 3) := by decide +kernel
theorem dX10_isNearest_105 : decode cX10_isNearest 105 = .ok (.goto (-41), 3) := by decide +kernel
theorem dX10_isNearest_108 : decode cX10_isNearest 108 = .ok (.iconst 1, 1) := by decide +kernel
theorem dX10_isNearest_109 : decode cX10_isNearest 109 = .ok (.ireturn, 1) := by decide +kernel
theorem dX10_says_0 : decode cX10_says 0 = .ok (.aload_n 0, 1) := by decide +kernel
theorem dX10_says_1 : decode cX10_says 1 = .ok (.iload_n 1, 1) := by decide +kernel
theorem dX10_says_2 : decode cX10_says 2 = .ok (.iload_n 2, 1) := by decide +kernel
theorem dX10_says_3 : decode cX10_says 3 = .ok (.invokevirtual 143, 3) := by decide +kernel
theorem dX10_says_6 : decode cX10_says 6 = .ok (.istore_n 3, 1) := by decide +kernel
theorem dX10_says_7 : decode cX10_says 7 = .ok (.iconst (-1), 1) := by decide +kernel
theorem dX10_says_8 : decode cX10_says 8 = .ok (.istore 4, 2) := by decide +kernel
theorem dX10_says_10 : decode cX10_says 10 = .ok (.iconst 0, 1) := by decide +kernel
theorem dX10_says_11 : decode cX10_says 11 = .ok (.istore 5, 2) := by decide +kernel
theorem dX10_says_13 : decode cX10_says 13 = .ok (.iload 5, 2) := by decide +kernel
theorem dX10_says_15 : decode cX10_says 15 = .ok (.bipush 49, 2) := by decide +kernel
theorem dX10_says_17 : decode cX10_says 17 = .ok (.if_icmp .ge 54, 3) := by decide +kernel
theorem dX10_says_20 : decode cX10_says 20 = .ok (.aload_n 0, 1) := by decide +kernel
theorem dX10_says_21 : decode cX10_says 21 = .ok (.iload_n 1, 1) := by decide +kernel
theorem dX10_says_22 : decode cX10_says 22 = .ok (.iload_n 2, 1) := by decide +kernel
theorem dX10_says_23 : decode cX10_says 23 = .ok (.iload 5, 2) := by decide +kernel
theorem dX10_says_25 : decode cX10_says 25 = .ok (.iload_n 3, 1) := by decide +kernel
theorem dX10_says_26 : decode cX10_says 26 = .ok (.invokevirtual 146, 3) := by decide +kernel
theorem dX10_says_29 : decode cX10_says 29 = .ok (.ifCond .ne 6, 3) := by decide +kernel
theorem dX10_says_32 : decode cX10_says 32 = .ok (.goto 33, 3) := by decide +kernel
theorem dX10_says_35 : decode cX10_says 35 = .ok (.iload 4, 2) := by decide +kernel
theorem dX10_says_37 : decode cX10_says 37 = .ok (.iconst (-1), 1) := by decide +kernel
theorem dX10_says_38 : decode cX10_says 38 = .ok (.if_icmp .eq 18, 3) := by decide +kernel
theorem dX10_says_41 : decode cX10_says 41 = .ok (.iload 4, 2) := by decide +kernel
theorem dX10_says_43 : decode cX10_says 43 = .ok (.aload_n 0, 1) := by decide +kernel
theorem dX10_says_44 : decode cX10_says 44 = .ok (.iload 5, 2) := by decide +kernel
theorem dX10_says_46 : decode cX10_says 46 = .ok (.iload_n 2, 1) := by decide +kernel
theorem dX10_says_47 : decode cX10_says 47 = .ok (.invokevirtual 136, 3) := by decide +kernel
theorem dX10_says_50 : decode cX10_says 50 = .ok (.if_icmp .eq 6, 3) := by decide +kernel
theorem dX10_says_53 : decode cX10_says 53 = .ok (.bipush (-2), 2) := by decide +kernel
theorem dX10_says_55 : decode cX10_says 55 = .ok (.ireturn, 1) := by decide +kernel
theorem dX10_says_56 : decode cX10_says 56 = .ok (.aload_n 0, 1) := by decide +kernel
theorem dX10_says_57 : decode cX10_says 57 = .ok (.iload 5, 2) := by decide +kernel
theorem dX10_says_59 : decode cX10_says 59 = .ok (.iload_n 2, 1) := by decide +kernel
theorem dX10_says_60 : decode cX10_says 60 = .ok (.invokevirtual 136, 3) := by decide +kernel
theorem dX10_says_63 : decode cX10_says 63 = .ok (.istore 4, 2) := by decide +kernel
theorem dX10_says_65 : decode cX10_says 65 = .ok (.iinc 5 1, 3) := by decide +kernel
theorem dX10_says_68 : decode cX10_says 68 = .ok (.goto (-55), 3) := by decide +kernel
theorem dX10_says_71 : decode cX10_says 71 = .ok (.iload 4, 2) := by decide +kernel
theorem dX10_says_73 : decode cX10_says 73 = .ok (.ireturn, 1) := by decide +kernel
theorem dX10_asks_0 : decode cX10_asks 0 = .ok (.aload_n 0, 1) := by decide +kernel
theorem dX10_asks_1 : decode cX10_asks 1 = .ok (.iload_n 1, 1) := by decide +kernel
theorem dX10_asks_2 : decode cX10_asks 2 = .ok (.invokevirtual 130, 3) := by decide +kernel
theorem dX10_asks_5 : decode cX10_asks 5 = .ok (.ifCond .eq 26, 3) := by decide +kernel
theorem dX10_asks_8 : decode cX10_asks 8 = .ok (.iload_n 2, 1) := by decide +kernel
theorem dX10_asks_9 : decode cX10_asks 9 = .ok (.iconst 0, 1) := by decide +kernel
theorem dX10_asks_10 : decode cX10_asks 10 = .ok (.iconst 4, 1) := by decide +kernel
theorem dX10_asks_11 : decode cX10_asks 11 = .ok (.invokestatic 88, 3) := by decide +kernel
theorem dX10_asks_14 : decode cX10_asks 14 = .ok (.ifCond .eq 17, 3) := by decide +kernel
theorem dX10_asks_17 : decode cX10_asks 17 = .ok (.aload_n 0, 1) := by decide +kernel
theorem dX10_asks_18 : decode cX10_asks 18 = .ok (.aload_n 0, 1) := by decide +kernel
theorem dX10_asks_19 : decode cX10_asks 19 = .ok (.getfield 28, 3) := by decide +kernel
theorem dX10_asks_22 : decode cX10_asks 22 = .ok (.iload_n 1, 1) := by decide +kernel
theorem dX10_asks_23 : decode cX10_asks 23 = .ok (.iaload, 1) := by decide +kernel
theorem dX10_asks_24 : decode cX10_asks 24 = .ok (.iload_n 2, 1) := by decide +kernel
theorem dX10_asks_25 : decode cX10_asks 25 = .ok (.invokevirtual 149, 3) := by decide +kernel
theorem dX10_asks_28 : decode cX10_asks 28 = .ok (.goto 4, 3) := by decide +kernel
theorem dX10_asks_31 : decode cX10_asks 31 = .ok (.iconst (-1), 1) := by decide +kernel
theorem dX10_asks_32 : decode cX10_asks 32 = .ok (.ireturn, 1) := by decide +kernel
theorem dX10_nearest_0 : decode cX10_nearest 0 = .ok (.aload_n 0, 1) := by decide +kernel
theorem dX10_nearest_1 : decode cX10_nearest 1 = .ok (.iload_n 1, 1) := by decide +kernel
theorem dX10_nearest_2 : decode cX10_nearest 2 = .ok (.invokevirtual 130, 3) := by decide +kernel
theorem dX10_nearest_5 : decode cX10_nearest 5 = .ok (.ifCond .eq 16, 3) := by decide +kernel
theorem dX10_nearest_8 : decode cX10_nearest 8 = .ok (.iload_n 2, 1) := by decide +kernel
theorem dX10_nearest_9 : decode cX10_nearest 9 = .ok (.iconst 0, 1) := by decide +kernel
theorem dX10_nearest_10 : decode cX10_nearest 10 = .ok (.iconst 4, 1) := by decide +kernel
theorem dX10_nearest_11 : decode cX10_nearest 11 = .ok (.invokestatic 88, 3) := by decide +kernel
theorem dX10_nearest_14 : decode cX10_nearest 14 = .ok (.ifCond .eq 7, 3) := by decide +kernel
theorem dX10_nearest_17 : decode cX10_nearest 17 = .ok (.iload_n 3, 1) := by decide +kernel
theorem dX10_nearest_18 : decode cX10_nearest 18 = .ok (.ifCond .ge 5, 3) := by decide +kernel
theorem dX10_nearest_21 : decode cX10_nearest 21 = .ok (.iconst (-1), 1) := by decide +kernel
theorem dX10_nearest_22 : decode cX10_nearest 22 = .ok (.ireturn, 1) := by decide +kernel
theorem dX10_nearest_23 : decode cX10_nearest 23 = .ok (.aload_n 0, 1) := by decide +kernel
theorem dX10_nearest_24 : decode cX10_nearest 24 = .ok (.aload_n 0, 1) := by decide +kernel
theorem dX10_nearest_25 : decode cX10_nearest 25 = .ok (.getfield 28, 3) := by decide +kernel
theorem dX10_nearest_28 : decode cX10_nearest 28 = .ok (.iload_n 1, 1) := by decide +kernel
theorem dX10_nearest_29 : decode cX10_nearest 29 = .ok (.iaload, 1) := by decide +kernel
theorem dX10_nearest_30 : decode cX10_nearest 30 = .ok (.iload_n 2, 1) := by decide +kernel
theorem dX10_nearest_31 : decode cX10_nearest 31 = .ok (.invokevirtual 143, 3) := by decide +kernel
theorem dX10_nearest_34 : decode cX10_nearest 34 = .ok (.istore 4, 2) := by decide +kernel
theorem dX10_nearest_36 : decode cX10_nearest 36 = .ok (.iload_n 3, 1) := by decide +kernel
theorem dX10_nearest_37 : decode cX10_nearest 37 = .ok (.istore 5, 2) := by decide +kernel
theorem dX10_nearest_39 : decode cX10_nearest 39 = .ok (.iconst 0, 1) := by decide +kernel
theorem dX10_nearest_40 : decode cX10_nearest 40 = .ok (.istore 6, 2) := by decide +kernel
theorem dX10_nearest_42 : decode cX10_nearest 42 = .ok (.iload 6, 2) := by decide +kernel
theorem dX10_nearest_44 : decode cX10_nearest 44 = .ok (.bipush 49, 2) := by decide +kernel
theorem dX10_nearest_46 : decode cX10_nearest 46 = .ok (.if_icmp .ge 41, 3) := by decide +kernel
theorem dX10_nearest_49 : decode cX10_nearest 49 = .ok (.aload_n 0, 1) := by decide +kernel
theorem dX10_nearest_50 : decode cX10_nearest 50 = .ok (.aload_n 0, 1) := by decide +kernel
theorem dX10_nearest_51 : decode cX10_nearest 51 = .ok (.getfield 28, 3) := by decide +kernel
theorem dX10_nearest_54 : decode cX10_nearest 54 = .ok (.iload_n 1, 1) := by decide +kernel
theorem dX10_nearest_55 : decode cX10_nearest 55 = .ok (.iaload, 1) := by decide +kernel
theorem dX10_nearest_56 : decode cX10_nearest 56 = .ok (.iload_n 2, 1) := by decide +kernel
theorem dX10_nearest_57 : decode cX10_nearest 57 = .ok (.iload 6, 2) := by decide +kernel
theorem dX10_nearest_59 : decode cX10_nearest 59 = .ok (.iload 4, 2) := by decide +kernel
theorem dX10_nearest_61 : decode cX10_nearest 61 = .ok (.invokevirtual 146, 3) := by decide +kernel
theorem dX10_nearest_64 : decode cX10_nearest 64 = .ok (.ifCond .ne 6, 3) := by decide +kernel
theorem dX10_nearest_67 : decode cX10_nearest 67 = .ok (.goto 14, 3) := by decide +kernel
theorem dX10_nearest_70 : decode cX10_nearest 70 = .ok (.iload 5, 2) := by decide +kernel
theorem dX10_nearest_72 : decode cX10_nearest 72 = .ok (.ifCond .ne 6, 3) := by decide +kernel
theorem dX10_nearest_75 : decode cX10_nearest 75 = .ok (.iload 6, 2) := by decide +kernel
theorem dX10_nearest_77 : decode cX10_nearest 77 = .ok (.ireturn, 1) := by decide +kernel
theorem dX10_nearest_78 : decode cX10_nearest 78 = .ok (.iinc 5 (-1), 3) := by decide +kernel
theorem dX10_nearest_81 : decode cX10_nearest 81 = .ok (.iinc 6 1, 3) := by decide +kernel
theorem dX10_nearest_84 : decode cX10_nearest 84 = .ok (.goto (-42), 3) := by decide +kernel
theorem dX10_nearest_87 : decode cX10_nearest 87 = .ok (.iconst (-1), 1) := by decide +kernel
theorem dX10_nearest_88 : decode cX10_nearest 88 = .ok (.ireturn, 1) := by decide +kernel
theorem dX10_mayLend_0 : decode cX10_mayLend 0 = .ok (.aload_n 0, 1) := by decide +kernel
theorem dX10_mayLend_1 : decode cX10_mayLend 1 = .ok (.getfield 46, 3) := by decide +kernel
theorem dX10_mayLend_4 : decode cX10_mayLend 4 = .ok (.iload_n 1, 1) := by decide +kernel
theorem dX10_mayLend_5 : decode cX10_mayLend 5 = .ok (.iaload, 1) := by decide +kernel
theorem dX10_mayLend_6 : decode cX10_mayLend 6 = .ok (.iconst (-1), 1) := by decide +kernel
theorem dX10_mayLend_7 : decode cX10_mayLend 7 = .ok (.if_icmp .ne 37, 3) := by decide +kernel
theorem dX10_mayLend_10 : decode cX10_mayLend 10 = .ok (.aload_n 0, 1) := by decide +kernel
theorem dX10_mayLend_11 : decode cX10_mayLend 11 = .ok (.aload_n 0, 1) := by decide +kernel
theorem dX10_mayLend_12 : decode cX10_mayLend 12 = .ok (.getfield 28, 3) := by decide +kernel
theorem dX10_mayLend_15 : decode cX10_mayLend 15 = .ok (.iload_n 1, 1) := by decide +kernel
theorem dX10_mayLend_16 : decode cX10_mayLend 16 = .ok (.iaload, 1) := by decide +kernel
theorem dX10_mayLend_17 : decode cX10_mayLend 17 = .ok (.iconst 2, 1) := by decide +kernel
theorem dX10_mayLend_18 : decode cX10_mayLend 18 = .ok (.invokevirtual 149, 3) := by decide +kernel
theorem dX10_mayLend_21 : decode cX10_mayLend 21 = .ok (.ifCond .le 23, 3) := by decide +kernel
theorem dX10_mayLend_24 : decode cX10_mayLend 24 = .ok (.aload_n 0, 1) := by decide +kernel
theorem dX10_mayLend_25 : decode cX10_mayLend 25 = .ok (.aload_n 0, 1) := by decide +kernel
theorem dX10_mayLend_26 : decode cX10_mayLend 26 = .ok (.getfield 28, 3) := by decide +kernel
theorem dX10_mayLend_29 : decode cX10_mayLend 29 = .ok (.iload_n 1, 1) := by decide +kernel
theorem dX10_mayLend_30 : decode cX10_mayLend 30 = .ok (.iaload, 1) := by decide +kernel
theorem dX10_mayLend_31 : decode cX10_mayLend 31 = .ok (.iconst 3, 1) := by decide +kernel
theorem dX10_mayLend_32 : decode cX10_mayLend 32 = .ok (.invokevirtual 149, 3) := by decide +kernel
theorem dX10_mayLend_35 : decode cX10_mayLend 35 = .ok (.bipush (-2), 2) := by decide +kernel
theorem dX10_mayLend_37 : decode cX10_mayLend 37 = .ok (.if_icmp .eq 7, 3) := by decide +kernel
theorem dX10_mayLend_40 : decode cX10_mayLend 40 = .ok (.iconst 1, 1) := by decide +kernel
theorem dX10_mayLend_41 : decode cX10_mayLend 41 = .ok (.goto 4, 3) := by decide +kernel
theorem dX10_mayLend_44 : decode cX10_mayLend 44 = .ok (.iconst 0, 1) := by decide +kernel
theorem dX10_mayLend_45 : decode cX10_mayLend 45 = .ok (.ireturn, 1) := by decide +kernel
theorem dX10_held_0 : decode cX10_held 0 = .ok (.iconst 0, 1) := by decide +kernel
theorem dX10_held_1 : decode cX10_held 1 = .ok (.istore_n 2, 1) := by decide +kernel
theorem dX10_held_2 : decode cX10_held 2 = .ok (.iconst 0, 1) := by decide +kernel
theorem dX10_held_3 : decode cX10_held 3 = .ok (.istore_n 3, 1) := by decide +kernel
theorem dX10_held_4 : decode cX10_held 4 = .ok (.iload_n 3, 1) := by decide +kernel
theorem dX10_held_5 : decode cX10_held 5 = .ok (.aload_n 0, 1) := by decide +kernel
theorem dX10_held_6 : decode cX10_held 6 = .ok (.getfield 99, 3) := by decide +kernel
theorem dX10_held_9 : decode cX10_held 9 = .ok (.if_icmp .ge 27, 3) := by decide +kernel
theorem dX10_held_12 : decode cX10_held 12 = .ok (.iload_n 2, 1) := by decide +kernel
theorem dX10_held_13 : decode cX10_held 13 = .ok (.aload_n 0, 1) := by decide +kernel
theorem dX10_held_14 : decode cX10_held 14 = .ok (.getfield 46, 3) := by decide +kernel
theorem dX10_held_17 : decode cX10_held 17 = .ok (.iload_n 3, 1) := by decide +kernel
theorem dX10_held_18 : decode cX10_held 18 = .ok (.iaload, 1) := by decide +kernel
theorem dX10_held_19 : decode cX10_held 19 = .ok (.iload_n 1, 1) := by decide +kernel
theorem dX10_held_20 : decode cX10_held 20 = .ok (.if_icmp .ne 7, 3) := by decide +kernel
theorem dX10_held_23 : decode cX10_held 23 = .ok (.iconst 1, 1) := by decide +kernel
theorem dX10_held_24 : decode cX10_held 24 = .ok (.goto 4, 3) := by decide +kernel
theorem dX10_held_27 : decode cX10_held 27 = .ok (.iconst 0, 1) := by decide +kernel
theorem dX10_held_28 : decode cX10_held 28 = .ok (.iadd, 1) := by decide +kernel
theorem dX10_held_29 : decode cX10_held 29 = .ok (.istore_n 2, 1) := by decide +kernel
theorem dX10_held_30 : decode cX10_held 30 = .ok (.iinc 3 1, 3) := by decide +kernel
theorem dX10_held_33 : decode cX10_held 33 = .ok (.goto (-29), 3) := by decide +kernel
theorem dX10_held_36 : decode cX10_held 36 = .ok (.iload_n 2, 1) := by decide +kernel
theorem dX10_held_37 : decode cX10_held 37 = .ok (.ireturn, 1) := by decide +kernel
theorem dX10_lends_0 : decode cX10_lends 0 = .ok (.aload_n 0, 1) := by decide +kernel
theorem dX10_lends_1 : decode cX10_lends 1 = .ok (.aload_n 0, 1) := by decide +kernel
theorem dX10_lends_2 : decode cX10_lends 2 = .ok (.getfield 28, 3) := by decide +kernel
theorem dX10_lends_5 : decode cX10_lends 5 = .ok (.iload_n 1, 1) := by decide +kernel
theorem dX10_lends_6 : decode cX10_lends 6 = .ok (.iaload, 1) := by decide +kernel
theorem dX10_lends_7 : decode cX10_lends 7 = .ok (.iconst 3, 1) := by decide +kernel
theorem dX10_lends_8 : decode cX10_lends 8 = .ok (.invokevirtual 149, 3) := by decide +kernel
theorem dX10_lends_11 : decode cX10_lends 11 = .ok (.istore 4, 2) := by decide +kernel
theorem dX10_lends_13 : decode cX10_lends 13 = .ok (.aload_n 0, 1) := by decide +kernel
theorem dX10_lends_14 : decode cX10_lends 14 = .ok (.getfield 46, 3) := by decide +kernel
theorem dX10_lends_17 : decode cX10_lends 17 = .ok (.iload_n 1, 1) := by decide +kernel
theorem dX10_lends_18 : decode cX10_lends 18 = .ok (.iload_n 2, 1) := by decide +kernel
theorem dX10_lends_19 : decode cX10_lends 19 = .ok (.iastore, 1) := by decide +kernel
theorem dX10_lends_20 : decode cX10_lends 20 = .ok (.aload_n 0, 1) := by decide +kernel
theorem dX10_lends_21 : decode cX10_lends 21 = .ok (.getfield 49, 3) := by decide +kernel
theorem dX10_lends_24 : decode cX10_lends 24 = .ok (.iload_n 1, 1) := by decide +kernel
theorem dX10_lends_25 : decode cX10_lends 25 = .ok (.iload_n 3, 1) := by decide +kernel
theorem dX10_lends_26 : decode cX10_lends 26 = .ok (.iastore, 1) := by decide +kernel
theorem dX10_lends_27 : decode cX10_lends 27 = .ok (.aload_n 0, 1) := by decide +kernel
theorem dX10_lends_28 : decode cX10_lends 28 = .ok (.getfield 52, 3) := by decide +kernel
theorem dX10_lends_31 : decode cX10_lends 31 = .ok (.iload_n 1, 1) := by decide +kernel
theorem dX10_lends_32 : decode cX10_lends 32 = .ok (.aload_n 0, 1) := by decide +kernel
theorem dX10_lends_33 : decode cX10_lends 33 = .ok (.aload_n 0, 1) := by decide +kernel
theorem dX10_lends_34 : decode cX10_lends 34 = .ok (.getfield 28, 3) := by decide +kernel
theorem dX10_lends_37 : decode cX10_lends 37 = .ok (.iload_n 1, 1) := by decide +kernel
theorem dX10_lends_38 : decode cX10_lends 38 = .ok (.iaload, 1) := by decide +kernel
theorem dX10_lends_39 : decode cX10_lends 39 = .ok (.iconst 2, 1) := by decide +kernel
theorem dX10_lends_40 : decode cX10_lends 40 = .ok (.invokevirtual 149, 3) := by decide +kernel
theorem dX10_lends_43 : decode cX10_lends 43 = .ok (.iastore, 1) := by decide +kernel
theorem dX10_lends_44 : decode cX10_lends 44 = .ok (.aload_n 0, 1) := by decide +kernel
theorem dX10_lends_45 : decode cX10_lends 45 = .ok (.getfield 55, 3) := by decide +kernel
theorem dX10_lends_48 : decode cX10_lends 48 = .ok (.iload_n 1, 1) := by decide +kernel
theorem dX10_lends_49 : decode cX10_lends 49 = .ok (.iload 4, 2) := by decide +kernel
theorem dX10_lends_51 : decode cX10_lends 51 = .ok (.iconst (-1), 1) := by decide +kernel
theorem dX10_lends_52 : decode cX10_lends 52 = .ok (.if_icmp .ne 7, 3) := by decide +kernel
theorem dX10_lends_55 : decode cX10_lends 55 = .ok (.iconst 0, 1) := by decide +kernel
theorem dX10_lends_56 : decode cX10_lends 56 = .ok (.goto 5, 3) := by decide +kernel
theorem dX10_lends_59 : decode cX10_lends 59 = .ok (.iload 4, 2) := by decide +kernel
theorem dX10_lends_61 : decode cX10_lends 61 = .ok (.iastore, 1) := by decide +kernel
theorem dX10_lends_62 : decode cX10_lends 62 = .ok (.aload_n 0, 1) := by decide +kernel
theorem dX10_lends_63 : decode cX10_lends 63 = .ok (.dup, 1) := by decide +kernel
theorem dX10_lends_64 : decode cX10_lends 64 = .ok (.getfield 152, 3) := by decide +kernel
theorem dX10_lends_67 : decode cX10_lends 67 = .ok (.iconst 1, 1) := by decide +kernel
theorem dX10_lends_68 : decode cX10_lends 68 = .ok (.iadd, 1) := by decide +kernel
theorem dX10_lends_69 : decode cX10_lends 69 = .ok (.putfield 152, 3) := by decide +kernel
theorem dX10_lends_72 : decode cX10_lends 72 = .ok (.return_, 1) := by decide +kernel
theorem dX10_lend_0 : decode cX10_lend 0 = .ok (.iload_n 2, 1) := by decide +kernel
theorem dX10_lend_1 : decode cX10_lend 1 = .ok (.iconst 0, 1) := by decide +kernel
theorem dX10_lend_2 : decode cX10_lend 2 = .ok (.bipush 19, 2) := by decide +kernel
theorem dX10_lend_4 : decode cX10_lend 4 = .ok (.invokestatic 88, 3) := by decide +kernel
theorem dX10_lend_7 : decode cX10_lend 7 = .ok (.ifCond .eq 13, 3) := by decide +kernel
theorem dX10_lend_10 : decode cX10_lend 10 = .ok (.iload_n 3, 1) := by decide +kernel
theorem dX10_lend_11 : decode cX10_lend 11 = .ok (.iconst 0, 1) := by decide +kernel
theorem dX10_lend_12 : decode cX10_lend 12 = .ok (.ldc 123, 2) := by decide +kernel
theorem dX10_lend_14 : decode cX10_lend 14 = .ok (.invokestatic 88, 3) := by decide +kernel
theorem dX10_lend_17 : decode cX10_lend 17 = .ok (.ifCond .ne 5, 3) := by decide +kernel
theorem dX10_lend_20 : decode cX10_lend 20 = .ok (.iconst (-1), 1) := by decide +kernel
theorem dX10_lend_21 : decode cX10_lend 21 = .ok (.ireturn, 1) := by decide +kernel
theorem dX10_lend_22 : decode cX10_lend 22 = .ok (.aload_n 0, 1) := by decide +kernel
theorem dX10_lend_23 : decode cX10_lend 23 = .ok (.iload_n 1, 1) := by decide +kernel
theorem dX10_lend_24 : decode cX10_lend 24 = .ok (.invokevirtual 130, 3) := by decide +kernel
theorem dX10_lend_27 : decode cX10_lend 27 = .ok (.ifCond .eq 32, 3) := by decide +kernel
theorem dX10_lend_30 : decode cX10_lend 30 = .ok (.aload_n 0, 1) := by decide +kernel
theorem dX10_lend_31 : decode cX10_lend 31 = .ok (.iload_n 1, 1) := by decide +kernel
theorem dX10_lend_32 : decode cX10_lend 32 = .ok (.invokevirtual 155, 3) := by decide +kernel
theorem dX10_lend_35 : decode cX10_lend 35 = .ok (.ifCond .eq 13, 3) := by decide +kernel
theorem dX10_lend_38 : decode cX10_lend 38 = .ok (.aload_n 0, 1) := by decide +kernel
theorem dX10_lend_39 : decode cX10_lend 39 = .ok (.iload_n 2, 1) := by decide +kernel
theorem dX10_lend_40 : decode cX10_lend 40 = .ok (.invokevirtual 158, 3) := by decide +kernel
theorem dX10_lend_43 : decode cX10_lend 43 = .ok (.bipush 12, 2) := by decide +kernel
theorem dX10_lend_45 : decode cX10_lend 45 = .ok (.if_icmp .ne 5, 3) := by decide +kernel
theorem dX10_lend_48 : decode cX10_lend 48 = .ok (.iconst (-1), 1) := by decide +kernel
theorem dX10_lend_49 : decode cX10_lend 49 = .ok (.ireturn, 1) := by decide +kernel
theorem dX10_lend_50 : decode cX10_lend 50 = .ok (.aload_n 0, 1) := by decide +kernel
theorem dX10_lend_51 : decode cX10_lend 51 = .ok (.iload_n 1, 1) := by decide +kernel
theorem dX10_lend_52 : decode cX10_lend 52 = .ok (.iload_n 2, 1) := by decide +kernel
theorem dX10_lend_53 : decode cX10_lend 53 = .ok (.iload_n 3, 1) := by decide +kernel
theorem dX10_lend_54 : decode cX10_lend 54 = .ok (.invokevirtual 162, 3) := by decide +kernel
theorem dX10_lend_57 : decode cX10_lend 57 = .ok (.iconst 1, 1) := by decide +kernel
theorem dX10_lend_58 : decode cX10_lend 58 = .ok (.ireturn, 1) := by decide +kernel
theorem dX10_lend_59 : decode cX10_lend 59 = .ok (.iload_n 1, 1) := by decide +kernel
theorem dX10_lend_60 : decode cX10_lend 60 = .ok (.sipush 1000, 3) := by decide +kernel
theorem dX10_lend_63 : decode cX10_lend 63 = .ok (.isub, 1) := by decide +kernel
theorem dX10_lend_64 : decode cX10_lend 64 = .ok (.istore 4, 2) := by decide +kernel
theorem dX10_lend_66 : decode cX10_lend 66 = .ok (.iload_n 1, 1) := by decide +kernel
theorem dX10_lend_67 : decode cX10_lend 67 = .ok (.sipush 1000, 3) := by decide +kernel
theorem dX10_lend_70 : decode cX10_lend 70 = .ok (.if_icmp .lt 18, 3) := by decide +kernel
theorem dX10_lend_73 : decode cX10_lend 73 = .ok (.iload 4, 2) := by decide +kernel
theorem dX10_lend_75 : decode cX10_lend 75 = .ok (.iconst 0, 1) := by decide +kernel
theorem dX10_lend_76 : decode cX10_lend 76 = .ok (.aload_n 0, 1) := by decide +kernel
theorem dX10_lend_77 : decode cX10_lend 77 = .ok (.getfield 124, 3) := by decide +kernel
theorem dX10_lend_80 : decode cX10_lend 80 = .ok (.iconst 1, 1) := by decide +kernel
theorem dX10_lend_81 : decode cX10_lend 81 = .ok (.isub, 1) := by decide +kernel
theorem dX10_lend_82 : decode cX10_lend 82 = .ok (.invokestatic 88, 3) := by decide +kernel
theorem dX10_lend_85 : decode cX10_lend 85 = .ok (.ifCond .ne 5, 3) := by decide +kernel
theorem dX10_lend_88 : decode cX10_lend 88 = .ok (.iconst (-1), 1) := by decide +kernel
theorem dX10_lend_89 : decode cX10_lend 89 = .ok (.ireturn, 1) := by decide +kernel
theorem dX10_lend_90 : decode cX10_lend 90 = .ok (.iconst 0, 1) := by decide +kernel
theorem dX10_lend_91 : decode cX10_lend 91 = .ok (.istore 5, 2) := by decide +kernel
theorem dX10_lend_93 : decode cX10_lend 93 = .ok (.iconst 0, 1) := by decide +kernel
theorem dX10_lend_94 : decode cX10_lend 94 = .ok (.istore 6, 2) := by decide +kernel
theorem dX10_lend_96 : decode cX10_lend 96 = .ok (.iload 6, 2) := by decide +kernel
theorem dX10_lend_98 : decode cX10_lend 98 = .ok (.aload_n 0, 1) := by decide +kernel
theorem dX10_lend_99 : decode cX10_lend 99 = .ok (.getfield 99, 3) := by decide +kernel
theorem dX10_lend_102 : decode cX10_lend 102 = .ok (.if_icmp .ge 38, 3) := by decide +kernel
theorem dX10_lend_105 : decode cX10_lend 105 = .ok (.aload_n 0, 1) := by decide +kernel
theorem dX10_lend_106 : decode cX10_lend 106 = .ok (.getfield 37, 3) := by decide +kernel
theorem dX10_lend_109 : decode cX10_lend 109 = .ok (.iload 6, 2) := by decide +kernel
theorem dX10_lend_111 : decode cX10_lend 111 = .ok (.iaload, 1) := by decide +kernel
theorem dX10_lend_112 : decode cX10_lend 112 = .ok (.iload 4, 2) := by decide +kernel
theorem dX10_lend_114 : decode cX10_lend 114 = .ok (.if_icmp .eq 6, 3) := by decide +kernel
theorem dX10_lend_117 : decode cX10_lend 117 = .ok (.goto 17, 3) := by decide +kernel
theorem dX10_lend_120 : decode cX10_lend 120 = .ok (.aload_n 0, 1) := by decide +kernel
theorem dX10_lend_121 : decode cX10_lend 121 = .ok (.iload 6, 2) := by decide +kernel
theorem dX10_lend_123 : decode cX10_lend 123 = .ok (.invokevirtual 155, 3) := by decide +kernel
theorem dX10_lend_126 : decode cX10_lend 126 = .ok (.ifCond .ne 5, 3) := by decide +kernel
theorem dX10_lend_129 : decode cX10_lend 129 = .ok (.iconst (-1), 1) := by decide +kernel
theorem dX10_lend_130 : decode cX10_lend 130 = .ok (.ireturn, 1) := by decide +kernel
theorem dX10_lend_131 : decode cX10_lend 131 = .ok (.iinc 5 1, 3) := by decide +kernel
theorem dX10_lend_134 : decode cX10_lend 134 = .ok (.iinc 6 1, 3) := by decide +kernel
theorem dX10_lend_137 : decode cX10_lend 137 = .ok (.goto (-41), 3) := by decide +kernel
theorem dX10_lend_140 : decode cX10_lend 140 = .ok (.iload 5, 2) := by decide +kernel
theorem dX10_lend_142 : decode cX10_lend 142 = .ok (.ifCond .eq 16, 3) := by decide +kernel
theorem dX10_lend_145 : decode cX10_lend 145 = .ok (.aload_n 0, 1) := by decide +kernel
theorem dX10_lend_146 : decode cX10_lend 146 = .ok (.iload_n 2, 1) := by decide +kernel
theorem dX10_lend_147 : decode cX10_lend 147 = .ok (.invokevirtual 158, 3) := by decide +kernel
theorem dX10_lend_150 : decode cX10_lend 150 = .ok (.iload 5, 2) := by decide +kernel
theorem dX10_lend_152 : decode cX10_lend 152 = .ok (.iadd, 1) := by decide +kernel
theorem dX10_lend_153 : decode cX10_lend 153 = .ok (.bipush 12, 2) := by decide +kernel
theorem dX10_lend_155 : decode cX10_lend 155 = .ok (.if_icmp .le 5, 3) := by decide +kernel
theorem dX10_lend_158 : decode cX10_lend 158 = .ok (.iconst (-1), 1) := by decide +kernel
theorem dX10_lend_159 : decode cX10_lend 159 = .ok (.ireturn, 1) := by decide +kernel
theorem dX10_lend_160 : decode cX10_lend 160 = .ok (.iconst 0, 1) := by decide +kernel
theorem dX10_lend_161 : decode cX10_lend 161 = .ok (.istore 6, 2) := by decide +kernel
theorem dX10_lend_163 : decode cX10_lend 163 = .ok (.iload 6, 2) := by decide +kernel
theorem dX10_lend_165 : decode cX10_lend 165 = .ok (.aload_n 0, 1) := by decide +kernel
theorem dX10_lend_166 : decode cX10_lend 166 = .ok (.getfield 99, 3) := by decide +kernel
theorem dX10_lend_169 : decode cX10_lend 169 = .ok (.if_icmp .ge 29, 3) := by decide +kernel
theorem dX10_lend_172 : decode cX10_lend 172 = .ok (.aload_n 0, 1) := by decide +kernel
theorem dX10_lend_173 : decode cX10_lend 173 = .ok (.getfield 37, 3) := by decide +kernel
theorem dX10_lend_176 : decode cX10_lend 176 = .ok (.iload 6, 2) := by decide +kernel
theorem dX10_lend_178 : decode cX10_lend 178 = .ok (.iaload, 1) := by decide +kernel
theorem dX10_lend_179 : decode cX10_lend 179 = .ok (.iload 4, 2) := by decide +kernel
theorem dX10_lend_181 : decode cX10_lend 181 = .ok (.if_icmp .ne 11, 3) := by decide +kernel
theorem dX10_lend_184 : decode cX10_lend 184 = .ok (.aload_n 0, 1) := by decide +kernel
theorem dX10_lend_185 : decode cX10_lend 185 = .ok (.iload 6, 2) := by decide +kernel
theorem dX10_lend_187 : decode cX10_lend 187 = .ok (.iload_n 2, 1) := by decide +kernel
theorem dX10_lend_188 : decode cX10_lend 188 = .ok (.iload_n 3, 1) := by decide +kernel
theorem dX10_lend_189 : decode cX10_lend 189 = .ok (.invokevirtual 162, 3) := by decide +kernel
theorem dX10_lend_192 : decode cX10_lend 192 = .ok (.iinc 6 1, 3) := by decide +kernel
theorem dX10_lend_195 : decode cX10_lend 195 = .ok (.goto (-32), 3) := by decide +kernel
theorem dX10_lend_198 : decode cX10_lend 198 = .ok (.iload 5, 2) := by decide +kernel
theorem dX10_lend_200 : decode cX10_lend 200 = .ok (.ireturn, 1) := by decide +kernel
theorem dX10_late_0 : decode cX10_late 0 = .ok (.aload_n 0, 1) := by decide +kernel
theorem dX10_late_1 : decode cX10_late 1 = .ok (.getfield 46, 3) := by decide +kernel
theorem dX10_late_4 : decode cX10_late 4 = .ok (.iload_n 1, 1) := by decide +kernel
theorem dX10_late_5 : decode cX10_late 5 = .ok (.iaload, 1) := by decide +kernel
theorem dX10_late_6 : decode cX10_late 6 = .ok (.iconst (-1), 1) := by decide +kernel
theorem dX10_late_7 : decode cX10_late 7 = .ok (.if_icmp .ne 5, 3) := by decide +kernel
theorem dX10_late_10 : decode cX10_late 10 = .ok (.iconst 0, 1) := by decide +kernel
theorem dX10_late_11 : decode cX10_late 11 = .ok (.ireturn, 1) := by decide +kernel
theorem dX10_late_12 : decode cX10_late 12 = .ok (.iload_n 2, 1) := by decide +kernel
theorem dX10_late_13 : decode cX10_late 13 = .ok (.aload_n 0, 1) := by decide +kernel
theorem dX10_late_14 : decode cX10_late 14 = .ok (.getfield 49, 3) := by decide +kernel
theorem dX10_late_17 : decode cX10_late 17 = .ok (.iload_n 1, 1) := by decide +kernel
theorem dX10_late_18 : decode cX10_late 18 = .ok (.iaload, 1) := by decide +kernel
theorem dX10_late_19 : decode cX10_late 19 = .ok (.isub, 1) := by decide +kernel
theorem dX10_late_20 : decode cX10_late 20 = .ok (.aload_n 0, 1) := by decide +kernel
theorem dX10_late_21 : decode cX10_late 21 = .ok (.getfield 52, 3) := by decide +kernel
theorem dX10_late_24 : decode cX10_late 24 = .ok (.iload_n 1, 1) := by decide +kernel
theorem dX10_late_25 : decode cX10_late 25 = .ok (.iaload, 1) := by decide +kernel
theorem dX10_late_26 : decode cX10_late 26 = .ok (.isub, 1) := by decide +kernel
theorem dX10_late_27 : decode cX10_late 27 = .ok (.istore_n 3, 1) := by decide +kernel
theorem dX10_late_28 : decode cX10_late 28 = .ok (.iload_n 3, 1) := by decide +kernel
theorem dX10_late_29 : decode cX10_late 29 = .ok (.ifCond .le 7, 3) := by decide +kernel
theorem dX10_late_32 : decode cX10_late 32 = .ok (.iload_n 3, 1) := by decide +kernel
theorem dX10_late_33 : decode cX10_late 33 = .ok (.goto 4, 3) := by decide +kernel
theorem dX10_late_36 : decode cX10_late 36 = .ok (.iconst 0, 1) := by decide +kernel
theorem dX10_late_37 : decode cX10_late 37 = .ok (.ireturn, 1) := by decide +kernel
theorem dX10_due_0 : decode cX10_due 0 = .ok (.aload_n 0, 1) := by decide +kernel
theorem dX10_due_1 : decode cX10_due 1 = .ok (.iload_n 1, 1) := by decide +kernel
theorem dX10_due_2 : decode cX10_due 2 = .ok (.iload_n 2, 1) := by decide +kernel
theorem dX10_due_3 : decode cX10_due 3 = .ok (.invokevirtual 166, 3) := by decide +kernel
theorem dX10_due_6 : decode cX10_due 6 = .ok (.istore_n 3, 1) := by decide +kernel
theorem dX10_due_7 : decode cX10_due 7 = .ok (.iload_n 3, 1) := by decide +kernel
theorem dX10_due_8 : decode cX10_due 8 = .ok (.bipush 30, 2) := by decide +kernel
theorem dX10_due_10 : decode cX10_due 10 = .ok (.if_icmp .gt 7, 3) := by decide +kernel
theorem dX10_due_13 : decode cX10_due 13 = .ok (.iload_n 3, 1) := by decide +kernel
theorem dX10_due_14 : decode cX10_due 14 = .ok (.goto 12, 3) := by decide +kernel
theorem dX10_due_17 : decode cX10_due 17 = .ok (.bipush 30, 2) := by decide +kernel
theorem dX10_due_19 : decode cX10_due 19 = .ok (.iconst 2, 1) := by decide +kernel
theorem dX10_due_20 : decode cX10_due 20 = .ok (.iload_n 3, 1) := by decide +kernel
theorem dX10_due_21 : decode cX10_due 21 = .ok (.bipush 30, 2) := by decide +kernel
theorem dX10_due_23 : decode cX10_due 23 = .ok (.isub, 1) := by decide +kernel
theorem dX10_due_24 : decode cX10_due 24 = .ok (.imul, 1) := by decide +kernel
theorem dX10_due_25 : decode cX10_due 25 = .ok (.iadd, 1) := by decide +kernel
theorem dX10_due_26 : decode cX10_due 26 = .ok (.istore 4, 2) := by decide +kernel
theorem dX10_due_28 : decode cX10_due 28 = .ok (.aload_n 0, 1) := by decide +kernel
theorem dX10_due_29 : decode cX10_due 29 = .ok (.getfield 55, 3) := by decide +kernel
theorem dX10_due_32 : decode cX10_due 32 = .ok (.iload_n 1, 1) := by decide +kernel
theorem dX10_due_33 : decode cX10_due 33 = .ok (.iaload, 1) := by decide +kernel
theorem dX10_due_34 : decode cX10_due 34 = .ok (.iload 4, 2) := by decide +kernel
theorem dX10_due_36 : decode cX10_due 36 = .ok (.bipush 100, 2) := by decide +kernel
theorem dX10_due_38 : decode cX10_due 38 = .ok (.if_icmp .le 8, 3) := by decide +kernel
theorem dX10_due_41 : decode cX10_due 41 = .ok (.bipush 100, 2) := by decide +kernel
theorem dX10_due_43 : decode cX10_due 43 = .ok (.goto 5, 3) := by decide +kernel
theorem dX10_due_46 : decode cX10_due 46 = .ok (.iload 4, 2) := by decide +kernel
theorem dX10_due_48 : decode cX10_due 48 = .ok (.imul, 1) := by decide +kernel
theorem dX10_due_49 : decode cX10_due 49 = .ok (.ireturn, 1) := by decide +kernel
theorem dX10_giveBack_0 : decode cX10_giveBack 0 = .ok (.aload_n 0, 1) := by decide +kernel
theorem dX10_giveBack_1 : decode cX10_giveBack 1 = .ok (.iload_n 1, 1) := by decide +kernel
theorem dX10_giveBack_2 : decode cX10_giveBack 2 = .ok (.invokevirtual 130, 3) := by decide +kernel
theorem dX10_giveBack_5 : decode cX10_giveBack 5 = .ok (.ifCond .eq 28, 3) := by decide +kernel
theorem dX10_giveBack_8 : decode cX10_giveBack 8 = .ok (.aload_n 0, 1) := by decide +kernel
theorem dX10_giveBack_9 : decode cX10_giveBack 9 = .ok (.getfield 46, 3) := by decide +kernel
theorem dX10_giveBack_12 : decode cX10_giveBack 12 = .ok (.iload_n 1, 1) := by decide +kernel
theorem dX10_giveBack_13 : decode cX10_giveBack 13 = .ok (.iaload, 1) := by decide +kernel
theorem dX10_giveBack_14 : decode cX10_giveBack 14 = .ok (.iconst (-1), 1) := by decide +kernel
theorem dX10_giveBack_15 : decode cX10_giveBack 15 = .ok (.if_icmp .eq 18, 3) := by decide +kernel
theorem dX10_giveBack_18 : decode cX10_giveBack 18 = .ok (.iload_n 2, 1) := by decide +kernel
theorem dX10_giveBack_19 : decode cX10_giveBack 19 = .ok (.aload_n 0, 1) := by decide +kernel
theorem dX10_giveBack_20 : decode cX10_giveBack 20 = .ok (.getfield 49, 3) := by decide +kernel
theorem dX10_giveBack_23 : decode cX10_giveBack 23 = .ok (.iload_n 1, 1) := by decide +kernel
theorem dX10_giveBack_24 : decode cX10_giveBack 24 = .ok (.iaload, 1) := by decide +kernel
theorem dX10_giveBack_25 : decode cX10_giveBack 25 = .ok (.ldc 123, 2) := by decide +kernel
theorem dX10_giveBack_27 : decode cX10_giveBack 27 = .ok (.invokestatic 88, 3) := by decide +kernel
theorem dX10_giveBack_30 : decode cX10_giveBack 30 = .ok (.ifCond .ne 5, 3) := by decide +kernel
theorem dX10_giveBack_33 : decode cX10_giveBack 33 = .ok (.iconst (-1), 1) := by decide +kernel
theorem dX10_giveBack_34 : decode cX10_giveBack 34 = .ok (.ireturn, 1) := by decide +kernel
theorem dX10_giveBack_35 : decode cX10_giveBack 35 = .ok (.aload_n 0, 1) := by decide +kernel
theorem dX10_giveBack_36 : decode cX10_giveBack 36 = .ok (.iload_n 1, 1) := by decide +kernel
theorem dX10_giveBack_37 : decode cX10_giveBack 37 = .ok (.iload_n 2, 1) := by decide +kernel
theorem dX10_giveBack_38 : decode cX10_giveBack 38 = .ok (.invokevirtual 169, 3) := by decide +kernel
theorem dX10_giveBack_41 : decode cX10_giveBack 41 = .ok (.istore_n 3, 1) := by decide +kernel
theorem dX10_giveBack_42 : decode cX10_giveBack 42 = .ok (.aload_n 0, 1) := by decide +kernel
theorem dX10_giveBack_43 : decode cX10_giveBack 43 = .ok (.getfield 70, 3) := by decide +kernel
theorem dX10_giveBack_46 : decode cX10_giveBack 46 = .ok (.aload_n 0, 1) := by decide +kernel
theorem dX10_giveBack_47 : decode cX10_giveBack 47 = .ok (.getfield 46, 3) := by decide +kernel
theorem dX10_giveBack_50 : decode cX10_giveBack 50 = .ok (.iload_n 1, 1) := by decide +kernel
theorem dX10_giveBack_51 : decode cX10_giveBack 51 = .ok (.iaload, 1) := by decide +kernel
theorem dX10_giveBack_52 : decode cX10_giveBack 52 = .ok (.dup2, 1) := by decide +kernel
theorem dX10_giveBack_53 : decode cX10_giveBack 53 = .ok (.iaload, 1) := by decide +kernel
theorem dX10_giveBack_54 : decode cX10_giveBack 54 = .ok (.iload_n 3, 1) := by decide +kernel
theorem dX10_giveBack_55 : decode cX10_giveBack 55 = .ok (.iadd, 1) := by decide +kernel
theorem dX10_giveBack_56 : decode cX10_giveBack 56 = .ok (.iastore, 1) := by decide +kernel
theorem dX10_giveBack_57 : decode cX10_giveBack 57 = .ok (.aload_n 0, 1) := by decide +kernel
theorem dX10_giveBack_58 : decode cX10_giveBack 58 = .ok (.getfield 46, 3) := by decide +kernel
theorem dX10_giveBack_61 : decode cX10_giveBack 61 = .ok (.iload_n 1, 1) := by decide +kernel
theorem dX10_giveBack_62 : decode cX10_giveBack 62 = .ok (.iconst (-1), 1) := by decide +kernel
theorem dX10_giveBack_63 : decode cX10_giveBack 63 = .ok (.iastore, 1) := by decide +kernel
theorem dX10_giveBack_64 : decode cX10_giveBack 64 = .ok (.aload_n 0, 1) := by decide +kernel
theorem dX10_giveBack_65 : decode cX10_giveBack 65 = .ok (.getfield 49, 3) := by decide +kernel
theorem dX10_giveBack_68 : decode cX10_giveBack 68 = .ok (.iload_n 1, 1) := by decide +kernel
theorem dX10_giveBack_69 : decode cX10_giveBack 69 = .ok (.iconst (-1), 1) := by decide +kernel
theorem dX10_giveBack_70 : decode cX10_giveBack 70 = .ok (.iastore, 1) := by decide +kernel
theorem dX10_giveBack_71 : decode cX10_giveBack 71 = .ok (.aload_n 0, 1) := by decide +kernel
theorem dX10_giveBack_72 : decode cX10_giveBack 72 = .ok (.getfield 52, 3) := by decide +kernel
theorem dX10_giveBack_75 : decode cX10_giveBack 75 = .ok (.iload_n 1, 1) := by decide +kernel
theorem dX10_giveBack_76 : decode cX10_giveBack 76 = .ok (.iconst (-1), 1) := by decide +kernel
theorem dX10_giveBack_77 : decode cX10_giveBack 77 = .ok (.iastore, 1) := by decide +kernel
theorem dX10_giveBack_78 : decode cX10_giveBack 78 = .ok (.aload_n 0, 1) := by decide +kernel
theorem dX10_giveBack_79 : decode cX10_giveBack 79 = .ok (.getfield 55, 3) := by decide +kernel
theorem dX10_giveBack_82 : decode cX10_giveBack 82 = .ok (.iload_n 1, 1) := by decide +kernel
theorem dX10_giveBack_83 : decode cX10_giveBack 83 = .ok (.iconst (-1), 1) := by decide +kernel
theorem dX10_giveBack_84 : decode cX10_giveBack 84 = .ok (.iastore, 1) := by decide +kernel
theorem dX10_giveBack_85 : decode cX10_giveBack 85 = .ok (.iload_n 3, 1) := by decide +kernel
theorem dX10_giveBack_86 : decode cX10_giveBack 86 = .ok (.ireturn, 1) := by decide +kernel
theorem dX10_overdue_0 : decode cX10_overdue 0 = .ok (.iload_n 1, 1) := by decide +kernel
theorem dX10_overdue_1 : decode cX10_overdue 1 = .ok (.iconst 0, 1) := by decide +kernel
theorem dX10_overdue_2 : decode cX10_overdue 2 = .ok (.ldc 123, 2) := by decide +kernel
theorem dX10_overdue_4 : decode cX10_overdue 4 = .ok (.invokestatic 88, 3) := by decide +kernel
theorem dX10_overdue_7 : decode cX10_overdue 7 = .ok (.ifCond .ne 5, 3) := by decide +kernel
theorem dX10_overdue_10 : decode cX10_overdue 10 = .ok (.iconst (-1), 1) := by decide +kernel
theorem dX10_overdue_11 : decode cX10_overdue 11 = .ok (.ireturn, 1) := by decide +kernel
theorem dX10_overdue_12 : decode cX10_overdue 12 = .ok (.iconst 0, 1) := by decide +kernel
theorem dX10_overdue_13 : decode cX10_overdue 13 = .ok (.istore_n 2, 1) := by decide +kernel
theorem dX10_overdue_14 : decode cX10_overdue 14 = .ok (.iconst 0, 1) := by decide +kernel
theorem dX10_overdue_15 : decode cX10_overdue 15 = .ok (.istore_n 3, 1) := by decide +kernel
theorem dX10_overdue_16 : decode cX10_overdue 16 = .ok (.iload_n 3, 1) := by decide +kernel
theorem dX10_overdue_17 : decode cX10_overdue 17 = .ok (.aload_n 0, 1) := by decide +kernel
theorem dX10_overdue_18 : decode cX10_overdue 18 = .ok (.getfield 99, 3) := by decide +kernel
theorem dX10_overdue_21 : decode cX10_overdue 21 = .ok (.if_icmp .ge 26, 3) := by decide +kernel
theorem dX10_overdue_24 : decode cX10_overdue 24 = .ok (.iload_n 2, 1) := by decide +kernel
theorem dX10_overdue_25 : decode cX10_overdue 25 = .ok (.aload_n 0, 1) := by decide +kernel
theorem dX10_overdue_26 : decode cX10_overdue 26 = .ok (.iload_n 3, 1) := by decide +kernel
theorem dX10_overdue_27 : decode cX10_overdue 27 = .ok (.iload_n 1, 1) := by decide +kernel
theorem dX10_overdue_28 : decode cX10_overdue 28 = .ok (.invokevirtual 166, 3) := by decide +kernel
theorem dX10_overdue_31 : decode cX10_overdue 31 = .ok (.ifCond .le 7, 3) := by decide +kernel
theorem dX10_overdue_34 : decode cX10_overdue 34 = .ok (.iconst 1, 1) := by decide +kernel
theorem dX10_overdue_35 : decode cX10_overdue 35 = .ok (.goto 4, 3) := by decide +kernel
theorem dX10_overdue_38 : decode cX10_overdue 38 = .ok (.iconst 0, 1) := by decide +kernel
theorem dX10_overdue_39 : decode cX10_overdue 39 = .ok (.iadd, 1) := by decide +kernel
theorem dX10_overdue_40 : decode cX10_overdue 40 = .ok (.istore_n 2, 1) := by decide +kernel
theorem dX10_overdue_41 : decode cX10_overdue 41 = .ok (.iinc 3 1, 3) := by decide +kernel
theorem dX10_overdue_44 : decode cX10_overdue 44 = .ok (.goto (-28), 3) := by decide +kernel
theorem dX10_overdue_47 : decode cX10_overdue 47 = .ok (.iload_n 2, 1) := by decide +kernel
theorem dX10_overdue_48 : decode cX10_overdue 48 = .ok (.ireturn, 1) := by decide +kernel
theorem dX10_lateOne_0 : decode cX10_lateOne 0 = .ok (.iload_n 1, 1) := by decide +kernel
theorem dX10_lateOne_1 : decode cX10_lateOne 1 = .ok (.iconst 0, 1) := by decide +kernel
theorem dX10_lateOne_2 : decode cX10_lateOne 2 = .ok (.ldc 123, 2) := by decide +kernel
theorem dX10_lateOne_4 : decode cX10_lateOne 4 = .ok (.invokestatic 88, 3) := by decide +kernel
theorem dX10_lateOne_7 : decode cX10_lateOne 7 = .ok (.ifCond .ne 5, 3) := by decide +kernel
theorem dX10_lateOne_10 : decode cX10_lateOne 10 = .ok (.iconst (-1), 1) := by decide +kernel
theorem dX10_lateOne_11 : decode cX10_lateOne 11 = .ok (.ireturn, 1) := by decide +kernel
theorem dX10_lateOne_12 : decode cX10_lateOne 12 = .ok (.iconst 0, 1) := by decide +kernel
theorem dX10_lateOne_13 : decode cX10_lateOne 13 = .ok (.istore_n 3, 1) := by decide +kernel
theorem dX10_lateOne_14 : decode cX10_lateOne 14 = .ok (.iload_n 3, 1) := by decide +kernel
theorem dX10_lateOne_15 : decode cX10_lateOne 15 = .ok (.aload_n 0, 1) := by decide +kernel
theorem dX10_lateOne_16 : decode cX10_lateOne 16 = .ok (.getfield 99, 3) := by decide +kernel
theorem dX10_lateOne_19 : decode cX10_lateOne 19 = .ok (.if_icmp .ge 94, 3) := by decide +kernel
theorem dX10_lateOne_22 : decode cX10_lateOne 22 = .ok (.aload_n 0, 1) := by decide +kernel
theorem dX10_lateOne_23 : decode cX10_lateOne 23 = .ok (.iload_n 3, 1) := by decide +kernel
theorem dX10_lateOne_24 : decode cX10_lateOne 24 = .ok (.iload_n 1, 1) := by decide +kernel
theorem dX10_lateOne_25 : decode cX10_lateOne 25 = .ok (.invokevirtual 166, 3) := by decide +kernel
theorem dX10_lateOne_28 : decode cX10_lateOne 28 = .ok (.istore 4, 2) := by decide +kernel
theorem dX10_lateOne_30 : decode cX10_lateOne 30 = .ok (.iload 4, 2) := by decide +kernel
theorem dX10_lateOne_32 : decode cX10_lateOne 32 = .ok (.ifCond .ne 6, 3) := by decide +kernel
theorem dX10_lateOne_35 : decode cX10_lateOne 35 = .ok (.goto 72, 3) := by decide +kernel
theorem dX10_lateOne_38 : decode cX10_lateOne 38 = .ok (.iconst 0, 1) := by decide +kernel
theorem dX10_lateOne_39 : decode cX10_lateOne 39 = .ok (.istore 5, 2) := by decide +kernel
theorem dX10_lateOne_41 : decode cX10_lateOne 41 = .ok (.iconst 0, 1) := by decide +kernel
theorem dX10_lateOne_42 : decode cX10_lateOne 42 = .ok (.istore 6, 2) := by decide +kernel
theorem dX10_lateOne_44 : decode cX10_lateOne 44 = .ok (.iload 6, 2) := by decide +kernel
theorem dX10_lateOne_46 : decode cX10_lateOne 46 = .ok (.aload_n 0, 1) := by decide +kernel
theorem dX10_lateOne_47 : decode cX10_lateOne 47 = .ok (.getfield 99, 3) := by decide +kernel
theorem dX10_lateOne_50 : decode cX10_lateOne 50 = .ok (.if_icmp .ge 49, 3) := by decide +kernel
theorem dX10_lateOne_53 : decode cX10_lateOne 53 = .ok (.iload 5, 2) := by decide +kernel
theorem dX10_lateOne_55 : decode cX10_lateOne 55 = .ok (.aload_n 0, 1) := by decide +kernel
theorem dX10_lateOne_56 : decode cX10_lateOne 56 = .ok (.iload 6, 2) := by decide +kernel
theorem dX10_lateOne_58 : decode cX10_lateOne 58 = .ok (.iload_n 1, 1) := by decide +kernel
theorem dX10_lateOne_59 : decode cX10_lateOne 59 = .ok (.invokevirtual 166, 3) := by decide +kernel
theorem dX10_lateOne_62 : decode cX10_lateOne 62 = .ok (.iload 4, 2) := by decide +kernel
theorem dX10_lateOne_64 : decode cX10_lateOne 64 = .ok (.if_icmp .gt 21, 3) := by decide +kernel
theorem dX10_lateOne_67 : decode cX10_lateOne 67 = .ok (.aload_n 0, 1) := by decide +kernel
theorem dX10_lateOne_68 : decode cX10_lateOne 68 = .ok (.iload 6, 2) := by decide +kernel
theorem dX10_lateOne_70 : decode cX10_lateOne 70 = .ok (.iload_n 1, 1) := by decide +kernel
theorem dX10_lateOne_71 : decode cX10_lateOne 71 = .ok (.invokevirtual 166, 3) := by decide +kernel
theorem dX10_lateOne_74 : decode cX10_lateOne 74 = .ok (.iload 4, 2) := by decide +kernel
theorem dX10_lateOne_76 : decode cX10_lateOne 76 = .ok (.if_icmp .ne 13, 3) := by decide +kernel
theorem dX10_lateOne_79 : decode cX10_lateOne 79 = .ok (.iload 6, 2) := by decide +kernel
theorem dX10_lateOne_81 : decode cX10_lateOne 81 = .ok (.iload_n 3, 1) := by decide +kernel
theorem dX10_lateOne_82 : decode cX10_lateOne 82 = .ok (.if_icmp .ge 7, 3) := by decide +kernel
theorem dX10_lateOne_85 : decode cX10_lateOne 85 = .ok (.iconst 1, 1) := by decide +kernel
theorem dX10_lateOne_86 : decode cX10_lateOne 86 = .ok (.goto 4, 3) := by decide +kernel
theorem dX10_lateOne_89 : decode cX10_lateOne 89 = .ok (.iconst 0, 1) := by decide +kernel
theorem dX10_lateOne_90 : decode cX10_lateOne 90 = .ok (.iadd, 1) := by decide +kernel
theorem dX10_lateOne_91 : decode cX10_lateOne 91 = .ok (.istore 5, 2) := by decide +kernel
theorem dX10_lateOne_93 : decode cX10_lateOne 93 = .ok (.iinc 6 1, 3) := by decide +kernel
theorem dX10_lateOne_96 : decode cX10_lateOne 96 = .ok (.goto (-52), 3) := by decide +kernel
theorem dX10_lateOne_99 : decode cX10_lateOne 99 = .ok (.iload 5, 2) := by decide +kernel
theorem dX10_lateOne_101 : decode cX10_lateOne 101 = .ok (.iload_n 2, 1) := by decide +kernel
theorem dX10_lateOne_102 : decode cX10_lateOne 102 = .ok (.if_icmp .ne 5, 3) := by decide +kernel
theorem dX10_lateOne_105 : decode cX10_lateOne 105 = .ok (.iload_n 3, 1) := by decide +kernel
theorem dX10_lateOne_106 : decode cX10_lateOne 106 = .ok (.ireturn, 1) := by decide +kernel
theorem dX10_lateOne_107 : decode cX10_lateOne 107 = .ok (.iinc 3 1, 3) := by decide +kernel
theorem dX10_lateOne_110 : decode cX10_lateOne 110 = .ok (.goto (-96), 3) := by decide +kernel
theorem dX10_lateOne_113 : decode cX10_lateOne 113 = .ok (.iconst (-1), 1) := by decide +kernel
theorem dX10_lateOne_114 : decode cX10_lateOne 114 = .ok (.ireturn, 1) := by decide +kernel
theorem dX10_fees_0 : decode cX10_fees 0 = .ok (.iload_n 1, 1) := by decide +kernel
theorem dX10_fees_1 : decode cX10_fees 1 = .ok (.iconst 0, 1) := by decide +kernel
theorem dX10_fees_2 : decode cX10_fees 2 = .ok (.bipush 19, 2) := by decide +kernel
theorem dX10_fees_4 : decode cX10_fees 4 = .ok (.invokestatic 88, 3) := by decide +kernel
theorem dX10_fees_7 : decode cX10_fees 7 = .ok (.ifCond .eq 13, 3) := by decide +kernel
theorem dX10_fees_10 : decode cX10_fees 10 = .ok (.iload_n 2, 1) := by decide +kernel
theorem dX10_fees_11 : decode cX10_fees 11 = .ok (.iconst 0, 1) := by decide +kernel
theorem dX10_fees_12 : decode cX10_fees 12 = .ok (.ldc 123, 2) := by decide +kernel
theorem dX10_fees_14 : decode cX10_fees 14 = .ok (.invokestatic 88, 3) := by decide +kernel
theorem dX10_fees_17 : decode cX10_fees 17 = .ok (.ifCond .ne 5, 3) := by decide +kernel
theorem dX10_fees_20 : decode cX10_fees 20 = .ok (.iconst (-1), 1) := by decide +kernel
theorem dX10_fees_21 : decode cX10_fees 21 = .ok (.ireturn, 1) := by decide +kernel
theorem dX10_fees_22 : decode cX10_fees 22 = .ok (.aload_n 0, 1) := by decide +kernel
theorem dX10_fees_23 : decode cX10_fees 23 = .ok (.getfield 70, 3) := by decide +kernel
theorem dX10_fees_26 : decode cX10_fees 26 = .ok (.iload_n 1, 1) := by decide +kernel
theorem dX10_fees_27 : decode cX10_fees 27 = .ok (.iaload, 1) := by decide +kernel
theorem dX10_fees_28 : decode cX10_fees 28 = .ok (.istore_n 3, 1) := by decide +kernel
theorem dX10_fees_29 : decode cX10_fees 29 = .ok (.iconst 0, 1) := by decide +kernel
theorem dX10_fees_30 : decode cX10_fees 30 = .ok (.istore 4, 2) := by decide +kernel
theorem dX10_fees_32 : decode cX10_fees 32 = .ok (.iload 4, 2) := by decide +kernel
theorem dX10_fees_34 : decode cX10_fees 34 = .ok (.aload_n 0, 1) := by decide +kernel
theorem dX10_fees_35 : decode cX10_fees 35 = .ok (.getfield 99, 3) := by decide +kernel
theorem dX10_fees_38 : decode cX10_fees 38 = .ok (.if_icmp .ge 34, 3) := by decide +kernel
theorem dX10_fees_41 : decode cX10_fees 41 = .ok (.iload_n 3, 1) := by decide +kernel
theorem dX10_fees_42 : decode cX10_fees 42 = .ok (.aload_n 0, 1) := by decide +kernel
theorem dX10_fees_43 : decode cX10_fees 43 = .ok (.getfield 46, 3) := by decide +kernel
theorem dX10_fees_46 : decode cX10_fees 46 = .ok (.iload 4, 2) := by decide +kernel
theorem dX10_fees_48 : decode cX10_fees 48 = .ok (.iaload, 1) := by decide +kernel
theorem dX10_fees_49 : decode cX10_fees 49 = .ok (.iload_n 1, 1) := by decide +kernel
theorem dX10_fees_50 : decode cX10_fees 50 = .ok (.if_icmp .ne 13, 3) := by decide +kernel
theorem dX10_fees_53 : decode cX10_fees 53 = .ok (.aload_n 0, 1) := by decide +kernel
theorem dX10_fees_54 : decode cX10_fees 54 = .ok (.iload 4, 2) := by decide +kernel
theorem dX10_fees_56 : decode cX10_fees 56 = .ok (.iload_n 2, 1) := by decide +kernel
theorem dX10_fees_57 : decode cX10_fees 57 = .ok (.invokevirtual 169, 3) := by decide +kernel
theorem dX10_fees_60 : decode cX10_fees 60 = .ok (.goto 4, 3) := by decide +kernel
theorem dX10_fees_63 : decode cX10_fees 63 = .ok (.iconst 0, 1) := by decide +kernel
theorem dX10_fees_64 : decode cX10_fees 64 = .ok (.iadd, 1) := by decide +kernel
theorem dX10_fees_65 : decode cX10_fees 65 = .ok (.istore_n 3, 1) := by decide +kernel
theorem dX10_fees_66 : decode cX10_fees 66 = .ok (.iinc 4 1, 3) := by decide +kernel
theorem dX10_fees_69 : decode cX10_fees 69 = .ok (.goto (-37), 3) := by decide +kernel
theorem dX10_fees_72 : decode cX10_fees 72 = .ok (.iload_n 3, 1) := by decide +kernel
theorem dX10_fees_73 : decode cX10_fees 73 = .ok (.ireturn, 1) := by decide +kernel
theorem dX10_isEnd_0 : decode cX10_isEnd 0 = .ok (.iload_n 0, 1) := by decide +kernel
theorem dX10_isEnd_1 : decode cX10_isEnd 1 = .ok (.iconst (-1), 1) := by decide +kernel
theorem dX10_isEnd_2 : decode cX10_isEnd 2 = .ok (.if_icmp .eq 25, 3) := by decide +kernel
theorem dX10_isEnd_5 : decode cX10_isEnd 5 = .ok (.iload_n 0, 1) := by decide +kernel
theorem dX10_isEnd_6 : decode cX10_isEnd 6 = .ok (.invokestatic 111, 3) := by decide +kernel
theorem dX10_isEnd_9 : decode cX10_isEnd 9 = .ok (.ifCond .ne 18, 3) := by decide +kernel
theorem dX10_isEnd_12 : decode cX10_isEnd 12 = .ok (.iload_n 0, 1) := by decide +kernel
theorem dX10_isEnd_13 : decode cX10_isEnd 13 = .ok (.sipush 201, 3) := by decide +kernel
theorem dX10_isEnd_16 : decode cX10_isEnd 16 = .ok (.iload_n 1, 1) := by decide +kernel
theorem dX10_isEnd_17 : decode cX10_isEnd 17 = .ok (.iadd, 1) := by decide +kernel
theorem dX10_isEnd_18 : decode cX10_isEnd 18 = .ok (.sipush 239, 3) := by decide +kernel
theorem dX10_isEnd_21 : decode cX10_isEnd 21 = .ok (.invokestatic 88, 3) := by decide +kernel
theorem dX10_isEnd_24 : decode cX10_isEnd 24 = .ok (.ifCond .eq 7, 3) := by decide +kernel
theorem dX10_isEnd_27 : decode cX10_isEnd 27 = .ok (.iconst 1, 1) := by decide +kernel
theorem dX10_isEnd_28 : decode cX10_isEnd 28 = .ok (.goto 4, 3) := by decide +kernel
theorem dX10_isEnd_31 : decode cX10_isEnd 31 = .ok (.iconst 0, 1) := by decide +kernel
theorem dX10_isEnd_32 : decode cX10_isEnd 32 = .ok (.ireturn, 1) := by decide +kernel
theorem dX10_question_0 : decode cX10_question 0 = .ok (.iload_n 1, 1) := by decide +kernel
theorem dX10_question_1 : decode cX10_question 1 = .ok (.iconst 0, 1) := by decide +kernel
theorem dX10_question_2 : decode cX10_question 2 = .ok (.bipush 9, 2) := by decide +kernel
theorem dX10_question_4 : decode cX10_question 4 = .ok (.invokestatic 88, 3) := by decide +kernel
theorem dX10_question_7 : decode cX10_question 7 = .ok (.ifCond .eq 14, 3) := by decide +kernel
theorem dX10_question_10 : decode cX10_question 10 = .ok (.aload_n 0, 1) := by decide +kernel
theorem dX10_question_11 : decode cX10_question 11 = .ok (.getfield 73, 3) := by decide +kernel
theorem dX10_question_14 : decode cX10_question 14 = .ok (.iload_n 1, 1) := by decide +kernel
theorem dX10_question_15 : decode cX10_question 15 = .ok (.iaload, 1) := by decide +kernel
theorem dX10_question_16 : decode cX10_question 16 = .ok (.bipush 40, 2) := by decide +kernel
theorem dX10_question_18 : decode cX10_question 18 = .ok (.if_icmp .ne 5, 3) := by decide +kernel
theorem dX10_question_21 : decode cX10_question 21 = .ok (.iconst (-1), 1) := by decide +kernel
theorem dX10_question_22 : decode cX10_question 22 = .ok (.ireturn, 1) := by decide +kernel
theorem dX10_question_23 : decode cX10_question 23 = .ok (.iload_n 2, 1) := by decide +kernel
theorem dX10_question_24 : decode cX10_question 24 = .ok (.bipush 60, 2) := by decide +kernel
theorem dX10_question_26 : decode cX10_question 26 = .ok (.if_icmp .eq 9, 3) := by decide +kernel
theorem dX10_question_29 : decode cX10_question 29 = .ok (.iload_n 2, 1) := by decide +kernel
theorem dX10_question_30 : decode cX10_question 30 = .ok (.bipush 61, 2) := by decide +kernel
theorem dX10_question_32 : decode cX10_question 32 = .ok (.if_icmp .ne 7, 3) := by decide +kernel
theorem dX10_question_35 : decode cX10_question 35 = .ok (.iconst 1, 1) := by decide +kernel
theorem dX10_question_36 : decode cX10_question 36 = .ok (.goto 4, 3) := by decide +kernel
theorem dX10_question_39 : decode cX10_question 39 = .ok (.iconst 0, 1) := by decide +kernel
theorem dX10_question_40 : decode cX10_question 40 = .ok (.istore 6, 2) := by decide +kernel
theorem dX10_question_42 : decode cX10_question 42 = .ok (.iload 6, 2) := by decide +kernel
theorem dX10_question_44 : decode cX10_question 44 = .ok (.ifCond .eq 16, 3) := by decide +kernel
theorem dX10_question_47 : decode cX10_question 47 = .ok (.iload_n 3, 1) := by decide +kernel
theorem dX10_question_48 : decode cX10_question 48 = .ok (.iconst 0, 1) := by decide +kernel
theorem dX10_question_49 : decode cX10_question 49 = .ok (.ldc 123, 2) := by decide +kernel
theorem dX10_question_51 : decode cX10_question 51 = .ok (.invokestatic 88, 3) := by decide +kernel
theorem dX10_question_54 : decode cX10_question 54 = .ok (.ifCond .ne 19, 3) := by decide +kernel
theorem dX10_question_57 : decode cX10_question 57 = .ok (.goto 14, 3) := by decide +kernel
theorem dX10_question_60 : decode cX10_question 60 = .ok (.iload_n 2, 1) := by decide +kernel
theorem dX10_question_61 : decode cX10_question 61 = .ok (.invokestatic 111, 3) := by decide +kernel
theorem dX10_question_64 : decode cX10_question 64 = .ok (.ifCond .eq 7, 3) := by decide +kernel
theorem dX10_question_67 : decode cX10_question 67 = .ok (.iload_n 3, 1) := by decide +kernel
theorem dX10_question_68 : decode cX10_question 68 = .ok (.ifCond .eq 5, 3) := by decide +kernel
theorem dX10_question_71 : decode cX10_question 71 = .ok (.iconst (-1), 1) := by decide +kernel
theorem dX10_question_72 : decode cX10_question 72 = .ok (.ireturn, 1) := by decide +kernel
theorem dX10_question_73 : decode cX10_question 73 = .ok (.aload_n 0, 1) := by decide +kernel
theorem dX10_question_74 : decode cX10_question 74 = .ok (.getfield 73, 3) := by decide +kernel
theorem dX10_question_77 : decode cX10_question 77 = .ok (.iload_n 1, 1) := by decide +kernel
theorem dX10_question_78 : decode cX10_question 78 = .ok (.iaload, 1) := by decide +kernel
theorem dX10_question_79 : decode cX10_question 79 = .ok (.istore 7, 2) := by decide +kernel
theorem dX10_question_81 : decode cX10_question 81 = .ok (.iload 4, 2) := by decide +kernel
theorem dX10_question_83 : decode cX10_question 83 = .ok (.iload 7, 2) := by decide +kernel
theorem dX10_question_85 : decode cX10_question 85 = .ok (.invokestatic 172, 3) := by decide +kernel
theorem dX10_question_88 : decode cX10_question 88 = .ok (.ifCond .eq 13, 3) := by decide +kernel
theorem dX10_question_91 : decode cX10_question 91 = .ok (.iload 5, 2) := by decide +kernel
theorem dX10_question_93 : decode cX10_question 93 = .ok (.iload 7, 2) := by decide +kernel
theorem dX10_question_95 : decode cX10_question 95 = .ok (.invokestatic 172, 3) := by decide +kernel
theorem dX10_question_98 : decode cX10_question 98 = .ok (.ifCond .ne 5, 3) := by decide +kernel
theorem dX10_question_101 : decode cX10_question 101 = .ok (.iconst (-1), 1) := by decide +kernel
theorem dX10_question_102 : decode cX10_question 102 = .ok (.ireturn, 1) := by decide +kernel
theorem dX10_question_103 : decode cX10_question 103 = .ok (.bipush 40, 2) := by decide +kernel
theorem dX10_question_105 : decode cX10_question 105 = .ok (.iload_n 1, 1) := by decide +kernel
theorem dX10_question_106 : decode cX10_question 106 = .ok (.imul, 1) := by decide +kernel
theorem dX10_question_107 : decode cX10_question 107 = .ok (.iload 7, 2) := by decide +kernel
theorem dX10_question_109 : decode cX10_question 109 = .ok (.iadd, 1) := by decide +kernel
theorem dX10_question_110 : decode cX10_question 110 = .ok (.istore 8, 2) := by decide +kernel
theorem dX10_question_112 : decode cX10_question 112 = .ok (.aload_n 0, 1) := by decide +kernel
theorem dX10_question_113 : decode cX10_question 113 = .ok (.getfield 76, 3) := by decide +kernel
theorem dX10_question_116 : decode cX10_question 116 = .ok (.iload 8, 2) := by decide +kernel
theorem dX10_question_118 : decode cX10_question 118 = .ok (.iload_n 2, 1) := by decide +kernel
theorem dX10_question_119 : decode cX10_question 119 = .ok (.iastore, 1) := by decide +kernel
theorem dX10_question_120 : decode cX10_question 120 = .ok (.aload_n 0, 1) := by decide +kernel
theorem dX10_question_121 : decode cX10_question 121 = .ok (.getfield 79, 3) := by decide +kernel
theorem dX10_question_124 : decode cX10_question 124 = .ok (.iload 8, 2) := by decide +kernel
theorem dX10_question_126 : decode cX10_question 126 = .ok (.iload_n 3, 1) := by decide +kernel
theorem dX10_question_127 : decode cX10_question 127 = .ok (.iastore, 1) := by decide +kernel
theorem dX10_question_128 : decode cX10_question 128 = .ok (.aload_n 0, 1) := by decide +kernel
theorem dX10_question_129 : decode cX10_question 129 = .ok (.getfield 82, 3) := by decide +kernel
theorem dX10_question_132 : decode cX10_question 132 = .ok (.iload 8, 2) := by decide +kernel
theorem dX10_question_134 : decode cX10_question 134 = .ok (.iload 4, 2) := by decide +kernel
theorem dX10_question_136 : decode cX10_question 136 = .ok (.iastore, 1) := by decide +kernel
theorem dX10_question_137 : decode cX10_question 137 = .ok (.aload_n 0, 1) := by decide +kernel
theorem dX10_question_138 : decode cX10_question 138 = .ok (.getfield 85, 3) := by decide +kernel
theorem dX10_question_141 : decode cX10_question 141 = .ok (.iload 8, 2) := by decide +kernel
theorem dX10_question_143 : decode cX10_question 143 = .ok (.iload 5, 2) := by decide +kernel
theorem dX10_question_145 : decode cX10_question 145 = .ok (.iastore, 1) := by decide +kernel
theorem dX10_question_146 : decode cX10_question 146 = .ok (.aload_n 0, 1) := by decide +kernel
theorem dX10_question_147 : decode cX10_question 147 = .ok (.getfield 73, 3) := by decide +kernel
theorem dX10_question_150 : decode cX10_question 150 = .ok (.iload_n 1, 1) := by decide +kernel
theorem dX10_question_151 : decode cX10_question 151 = .ok (.dup2, 1) := by decide +kernel
theorem dX10_question_152 : decode cX10_question 152 = .ok (.iaload, 1) := by decide +kernel
theorem dX10_question_153 : decode cX10_question 153 = .ok (.iconst 1, 1) := by decide +kernel
theorem dX10_question_154 : decode cX10_question 154 = .ok (.iadd, 1) := by decide +kernel
theorem dX10_question_155 : decode cX10_question 155 = .ok (.iastore, 1) := by decide +kernel
theorem dX10_question_156 : decode cX10_question 156 = .ok (.iload 7, 2) := by decide +kernel
theorem dX10_question_158 : decode cX10_question 158 = .ok (.iconst 1, 1) := by decide +kernel
theorem dX10_question_159 : decode cX10_question 159 = .ok (.iadd, 1) := by decide +kernel
theorem dX10_question_160 : decode cX10_question 160 = .ok (.ireturn, 1) := by decide +kernel
theorem dX10_answer_0 : decode cX10_answer 0 = .ok (.aload_n 0, 1) := by decide +kernel
theorem dX10_answer_1 : decode cX10_answer 1 = .ok (.getfield 76, 3) := by decide +kernel
theorem dX10_answer_4 : decode cX10_answer 4 = .ok (.iload_n 1, 1) := by decide +kernel
theorem dX10_answer_5 : decode cX10_answer 5 = .ok (.iaload, 1) := by decide +kernel
theorem dX10_answer_6 : decode cX10_answer 6 = .ok (.bipush 60, 2) := by decide +kernel
theorem dX10_answer_8 : decode cX10_answer 8 = .ok (.if_icmp .ne 24, 3) := by decide +kernel
theorem dX10_answer_11 : decode cX10_answer 11 = .ok (.aload_n 0, 1) := by decide +kernel
theorem dX10_answer_12 : decode cX10_answer 12 = .ok (.getfield 31, 3) := by decide +kernel
theorem dX10_answer_15 : decode cX10_answer 15 = .ok (.iload_n 2, 1) := by decide +kernel
theorem dX10_answer_16 : decode cX10_answer 16 = .ok (.iaload, 1) := by decide +kernel
theorem dX10_answer_17 : decode cX10_answer 17 = .ok (.aload_n 0, 1) := by decide +kernel
theorem dX10_answer_18 : decode cX10_answer 18 = .ok (.getfield 79, 3) := by decide +kernel
theorem dX10_answer_21 : decode cX10_answer 21 = .ok (.iload_n 1, 1) := by decide +kernel
theorem dX10_answer_22 : decode cX10_answer 22 = .ok (.iaload, 1) := by decide +kernel
theorem dX10_answer_23 : decode cX10_answer 23 = .ok (.if_icmp .lt 7, 3) := by decide +kernel
theorem dX10_answer_26 : decode cX10_answer 26 = .ok (.iconst 1, 1) := by decide +kernel
theorem dX10_answer_27 : decode cX10_answer 27 = .ok (.goto 4, 3) := by decide +kernel
theorem dX10_answer_30 : decode cX10_answer 30 = .ok (.iconst 0, 1) := by decide +kernel
theorem dX10_answer_31 : decode cX10_answer 31 = .ok (.ireturn, 1) := by decide +kernel
theorem dX10_answer_32 : decode cX10_answer 32 = .ok (.aload_n 0, 1) := by decide +kernel
theorem dX10_answer_33 : decode cX10_answer 33 = .ok (.getfield 76, 3) := by decide +kernel
theorem dX10_answer_36 : decode cX10_answer 36 = .ok (.iload_n 1, 1) := by decide +kernel
theorem dX10_answer_37 : decode cX10_answer 37 = .ok (.iaload, 1) := by decide +kernel
theorem dX10_answer_38 : decode cX10_answer 38 = .ok (.bipush 61, 2) := by decide +kernel
theorem dX10_answer_40 : decode cX10_answer 40 = .ok (.if_icmp .ne 24, 3) := by decide +kernel
theorem dX10_answer_43 : decode cX10_answer 43 = .ok (.aload_n 0, 1) := by decide +kernel
theorem dX10_answer_44 : decode cX10_answer 44 = .ok (.getfield 34, 3) := by decide +kernel
theorem dX10_answer_47 : decode cX10_answer 47 = .ok (.iload_n 2, 1) := by decide +kernel
theorem dX10_answer_48 : decode cX10_answer 48 = .ok (.iaload, 1) := by decide +kernel
theorem dX10_answer_49 : decode cX10_answer 49 = .ok (.aload_n 0, 1) := by decide +kernel
theorem dX10_answer_50 : decode cX10_answer 50 = .ok (.getfield 79, 3) := by decide +kernel
theorem dX10_answer_53 : decode cX10_answer 53 = .ok (.iload_n 1, 1) := by decide +kernel
theorem dX10_answer_54 : decode cX10_answer 54 = .ok (.iaload, 1) := by decide +kernel
theorem dX10_answer_55 : decode cX10_answer 55 = .ok (.if_icmp .lt 7, 3) := by decide +kernel
theorem dX10_answer_58 : decode cX10_answer 58 = .ok (.iconst 1, 1) := by decide +kernel
theorem dX10_answer_59 : decode cX10_answer 59 = .ok (.goto 4, 3) := by decide +kernel
theorem dX10_answer_62 : decode cX10_answer 62 = .ok (.iconst 0, 1) := by decide +kernel
theorem dX10_answer_63 : decode cX10_answer 63 = .ok (.ireturn, 1) := by decide +kernel
theorem dX10_answer_64 : decode cX10_answer 64 = .ok (.aload_n 0, 1) := by decide +kernel
theorem dX10_answer_65 : decode cX10_answer 65 = .ok (.aload_n 0, 1) := by decide +kernel
theorem dX10_answer_66 : decode cX10_answer 66 = .ok (.getfield 76, 3) := by decide +kernel
theorem dX10_answer_69 : decode cX10_answer 69 = .ok (.iload_n 1, 1) := by decide +kernel
theorem dX10_answer_70 : decode cX10_answer 70 = .ok (.iaload, 1) := by decide +kernel
theorem dX10_answer_71 : decode cX10_answer 71 = .ok (.aload_n 0, 1) := by decide +kernel
theorem dX10_answer_72 : decode cX10_answer 72 = .ok (.getfield 28, 3) := by decide +kernel
theorem dX10_answer_75 : decode cX10_answer 75 = .ok (.iload_n 2, 1) := by decide +kernel
theorem dX10_answer_76 : decode cX10_answer 76 = .ok (.iaload, 1) := by decide +kernel
theorem dX10_answer_77 : decode cX10_answer 77 = .ok (.invokevirtual 114, 3) := by decide +kernel
theorem dX10_answer_80 : decode cX10_answer 80 = .ok (.ireturn, 1) := by decide +kernel
theorem dX10_name_0 : decode cX10_name 0 = .ok (.iload_n 1, 1) := by decide +kernel
theorem dX10_name_1 : decode cX10_name 1 = .ok (.iconst 0, 1) := by decide +kernel
theorem dX10_name_2 : decode cX10_name 2 = .ok (.bipush 9, 2) := by decide +kernel
theorem dX10_name_4 : decode cX10_name 4 = .ok (.invokestatic 88, 3) := by decide +kernel
theorem dX10_name_7 : decode cX10_name 7 = .ok (.ifCond .eq 11, 3) := by decide +kernel
theorem dX10_name_10 : decode cX10_name 10 = .ok (.aload_n 0, 1) := by decide +kernel
theorem dX10_name_11 : decode cX10_name 11 = .ok (.iload_n 2, 1) := by decide +kernel
theorem dX10_name_12 : decode cX10_name 12 = .ok (.invokevirtual 130, 3) := by decide +kernel
theorem dX10_name_15 : decode cX10_name 15 = .ok (.ifCond .ne 5, 3) := by decide +kernel
theorem dX10_name_18 : decode cX10_name 18 = .ok (.iconst (-1), 1) := by decide +kernel
theorem dX10_name_19 : decode cX10_name 19 = .ok (.ireturn, 1) := by decide +kernel
theorem dX10_name_20 : decode cX10_name 20 = .ok (.aload_n 0, 1) := by decide +kernel
theorem dX10_name_21 : decode cX10_name 21 = .ok (.iconst 0, 1) := by decide +kernel
theorem dX10_name_22 : decode cX10_name 22 = .ok (.putfield 175, 3) := by decide +kernel
theorem dX10_name_25 : decode cX10_name 25 = .ok (.sipush 200, 3) := by decide +kernel
theorem dX10_name_28 : decode cX10_name 28 = .ok (.istore_n 3, 1) := by decide +kernel
theorem dX10_name_29 : decode cX10_name 29 = .ok (.iload_n 3, 1) := by decide +kernel
theorem dX10_name_30 : decode cX10_name 30 = .ok (.sipush 200, 3) := by decide +kernel
theorem dX10_name_33 : decode cX10_name 33 = .ok (.if_icmp .lt 70, 3) := by decide +kernel
theorem dX10_name_36 : decode cX10_name 36 = .ok (.iload_n 3, 1) := by decide +kernel
theorem dX10_name_37 : decode cX10_name 37 = .ok (.sipush 200, 3) := by decide +kernel
theorem dX10_name_40 : decode cX10_name 40 = .ok (.isub, 1) := by decide +kernel
theorem dX10_name_41 : decode cX10_name 41 = .ok (.aload_n 0, 1) := by decide +kernel
theorem dX10_name_42 : decode cX10_name 42 = .ok (.getfield 73, 3) := by decide +kernel
theorem dX10_name_45 : decode cX10_name 45 = .ok (.iload_n 1, 1) := by decide +kernel
theorem dX10_name_46 : decode cX10_name 46 = .ok (.iaload, 1) := by decide +kernel
theorem dX10_name_47 : decode cX10_name 47 = .ok (.if_icmp .ge 56, 3) := by decide +kernel
theorem dX10_name_50 : decode cX10_name 50 = .ok (.bipush 40, 2) := by decide +kernel
theorem dX10_name_52 : decode cX10_name 52 = .ok (.iload_n 1, 1) := by decide +kernel
theorem dX10_name_53 : decode cX10_name 53 = .ok (.imul, 1) := by decide +kernel
theorem dX10_name_54 : decode cX10_name 54 = .ok (.iload_n 3, 1) := by decide +kernel
theorem dX10_name_55 : decode cX10_name 55 = .ok (.iadd, 1) := by decide +kernel
theorem dX10_name_56 : decode cX10_name 56 = .ok (.sipush 200, 3) := by decide +kernel
theorem dX10_name_59 : decode cX10_name 59 = .ok (.isub, 1) := by decide +kernel
theorem dX10_name_60 : decode cX10_name 60 = .ok (.istore 4, 2) := by decide +kernel
theorem dX10_name_62 : decode cX10_name 62 = .ok (.aload_n 0, 1) := by decide +kernel
theorem dX10_name_63 : decode cX10_name 63 = .ok (.dup, 1) := by decide +kernel
theorem dX10_name_64 : decode cX10_name 64 = .ok (.getfield 175, 3) := by decide +kernel
theorem dX10_name_67 : decode cX10_name 67 = .ok (.iconst 1, 1) := by decide +kernel
theorem dX10_name_68 : decode cX10_name 68 = .ok (.iadd, 1) := by decide +kernel
theorem dX10_name_69 : decode cX10_name 69 = .ok (.putfield 175, 3) := by decide +kernel
theorem dX10_name_72 : decode cX10_name 72 = .ok (.aload_n 0, 1) := by decide +kernel
theorem dX10_name_73 : decode cX10_name 73 = .ok (.iload 4, 2) := by decide +kernel
theorem dX10_name_75 : decode cX10_name 75 = .ok (.iload_n 2, 1) := by decide +kernel
theorem dX10_name_76 : decode cX10_name 76 = .ok (.invokevirtual 178, 3) := by decide +kernel
theorem dX10_name_79 : decode cX10_name 79 = .ok (.ifCond .eq 13, 3) := by decide +kernel
theorem dX10_name_82 : decode cX10_name 82 = .ok (.aload_n 0, 1) := by decide +kernel
theorem dX10_name_83 : decode cX10_name 83 = .ok (.getfield 82, 3) := by decide +kernel
theorem dX10_name_86 : decode cX10_name 86 = .ok (.iload 4, 2) := by decide +kernel
theorem dX10_name_88 : decode cX10_name 88 = .ok (.iaload, 1) := by decide +kernel
theorem dX10_name_89 : decode cX10_name 89 = .ok (.goto 10, 3) := by decide +kernel
theorem dX10_name_92 : decode cX10_name 92 = .ok (.aload_n 0, 1) := by decide +kernel
theorem dX10_name_93 : decode cX10_name 93 = .ok (.getfield 85, 3) := by decide +kernel
theorem dX10_name_96 : decode cX10_name 96 = .ok (.iload 4, 2) := by decide +kernel
theorem dX10_name_98 : decode cX10_name 98 = .ok (.iaload, 1) := by decide +kernel
theorem dX10_name_99 : decode cX10_name 99 = .ok (.istore_n 3, 1) := by decide +kernel
theorem dX10_name_100 : decode cX10_name 100 = .ok (.goto (-71), 3) := by decide +kernel
theorem dX10_name_103 : decode cX10_name 103 = .ok (.iload_n 3, 1) := by decide +kernel
theorem dX10_name_104 : decode cX10_name 104 = .ok (.sipush 200, 3) := by decide +kernel
theorem dX10_name_107 : decode cX10_name 107 = .ok (.if_icmp .lt 7, 3) := by decide +kernel
theorem dX10_name_110 : decode cX10_name 110 = .ok (.iconst (-1), 1) := by decide +kernel
theorem dX10_name_111 : decode cX10_name 111 = .ok (.goto 4, 3) := by decide +kernel
theorem dX10_name_114 : decode cX10_name 114 = .ok (.iload_n 3, 1) := by decide +kernel
theorem dX10_name_115 : decode cX10_name 115 = .ok (.ireturn, 1) := by decide +kernel
theorem dX10_asked_0 : decode cX10_asked 0 = .ok (.aload_n 0, 1) := by decide +kernel
theorem dX10_asked_1 : decode cX10_asked 1 = .ok (.getfield 175, 3) := by decide +kernel
theorem dX10_asked_4 : decode cX10_asked 4 = .ok (.ireturn, 1) := by decide +kernel
theorem dX10_convert_0 : decode cX10_convert 0 = .ok (.aload_n 0, 1) := by decide +kernel
theorem dX10_convert_1 : decode cX10_convert 1 = .ok (.iload_n 1, 1) := by decide +kernel
theorem dX10_convert_2 : decode cX10_convert 2 = .ok (.invokevirtual 130, 3) := by decide +kernel
theorem dX10_convert_5 : decode cX10_convert 5 = .ok (.ifCond .eq 38, 3) := by decide +kernel
theorem dX10_convert_8 : decode cX10_convert 8 = .ok (.iload_n 2, 1) := by decide +kernel
theorem dX10_convert_9 : decode cX10_convert 9 = .ok (.invokestatic 92, 3) := by decide +kernel
theorem dX10_convert_12 : decode cX10_convert 12 = .ok (.ifCond .eq 31, 3) := by decide +kernel
theorem dX10_convert_15 : decode cX10_convert 15 = .ok (.aload_n 0, 1) := by decide +kernel
theorem dX10_convert_16 : decode cX10_convert 16 = .ok (.iload_n 2, 1) := by decide +kernel
theorem dX10_convert_17 : decode cX10_convert 17 = .ok (.invokevirtual 120, 3) := by decide +kernel
theorem dX10_convert_20 : decode cX10_convert 20 = .ok (.ifCond .ne 23, 3) := by decide +kernel
theorem dX10_convert_23 : decode cX10_convert 23 = .ok (.aload_n 0, 1) := by decide +kernel
theorem dX10_convert_24 : decode cX10_convert 24 = .ok (.getfield 28, 3) := by decide +kernel
theorem dX10_convert_27 : decode cX10_convert 27 = .ok (.iload_n 1, 1) := by decide +kernel
theorem dX10_convert_28 : decode cX10_convert 28 = .ok (.iaload, 1) := by decide +kernel
theorem dX10_convert_29 : decode cX10_convert 29 = .ok (.iload_n 2, 1) := by decide +kernel
theorem dX10_convert_30 : decode cX10_convert 30 = .ok (.if_icmp .eq 13, 3) := by decide +kernel
theorem dX10_convert_33 : decode cX10_convert 33 = .ok (.aload_n 0, 1) := by decide +kernel
theorem dX10_convert_34 : decode cX10_convert 34 = .ok (.getfield 46, 3) := by decide +kernel
theorem dX10_convert_37 : decode cX10_convert 37 = .ok (.iload_n 1, 1) := by decide +kernel
theorem dX10_convert_38 : decode cX10_convert 38 = .ok (.iaload, 1) := by decide +kernel
theorem dX10_convert_39 : decode cX10_convert 39 = .ok (.iconst (-1), 1) := by decide +kernel
theorem dX10_convert_40 : decode cX10_convert 40 = .ok (.if_icmp .eq 5, 3) := by decide +kernel
theorem dX10_convert_43 : decode cX10_convert 43 = .ok (.iconst 0, 1) := by decide +kernel
theorem dX10_convert_44 : decode cX10_convert 44 = .ok (.ireturn, 1) := by decide +kernel
theorem dX10_convert_45 : decode cX10_convert 45 = .ok (.iconst 0, 1) := by decide +kernel
theorem dX10_convert_46 : decode cX10_convert 46 = .ok (.istore_n 3, 1) := by decide +kernel
theorem dX10_convert_47 : decode cX10_convert 47 = .ok (.bipush 41, 2) := by decide +kernel
theorem dX10_convert_49 : decode cX10_convert 49 = .ok (.istore 4, 2) := by decide +kernel
theorem dX10_convert_51 : decode cX10_convert 51 = .ok (.iload 4, 2) := by decide +kernel
theorem dX10_convert_53 : decode cX10_convert 53 = .ok (.bipush 49, 2) := by decide +kernel
theorem dX10_convert_55 : decode cX10_convert 55 = .ok (.if_icmp .ge 35, 3) := by decide +kernel
theorem dX10_convert_58 : decode cX10_convert 58 = .ok (.iload_n 3, 1) := by decide +kernel
theorem dX10_convert_59 : decode cX10_convert 59 = .ok (.ifCond .ne 19, 3) := by decide +kernel
theorem dX10_convert_62 : decode cX10_convert 62 = .ok (.aload_n 0, 1) := by decide +kernel
theorem dX10_convert_63 : decode cX10_convert 63 = .ok (.aload_n 0, 1) := by decide +kernel
theorem dX10_convert_64 : decode cX10_convert 64 = .ok (.getfield 28, 3) := by decide +kernel
theorem dX10_convert_67 : decode cX10_convert 67 = .ok (.iload_n 1, 1) := by decide +kernel
theorem dX10_convert_68 : decode cX10_convert 68 = .ok (.iaload, 1) := by decide +kernel
theorem dX10_convert_69 : decode cX10_convert 69 = .ok (.iload_n 2, 1) := by decide +kernel
theorem dX10_convert_70 : decode cX10_convert 70 = .ok (.iload 4, 2) := by decide +kernel
theorem dX10_convert_72 : decode cX10_convert 72 = .ok (.invokevirtual 117, 3) := by decide +kernel
theorem dX10_convert_75 : decode cX10_convert 75 = .ok (.ifCond .eq 7, 3) := by decide +kernel
theorem dX10_convert_78 : decode cX10_convert 78 = .ok (.iconst 1, 1) := by decide +kernel
theorem dX10_convert_79 : decode cX10_convert 79 = .ok (.goto 4, 3) := by decide +kernel
theorem dX10_convert_82 : decode cX10_convert 82 = .ok (.iconst 0, 1) := by decide +kernel
theorem dX10_convert_83 : decode cX10_convert 83 = .ok (.istore_n 3, 1) := by decide +kernel
theorem dX10_convert_84 : decode cX10_convert 84 = .ok (.iinc 4 1, 3) := by decide +kernel
theorem dX10_convert_87 : decode cX10_convert 87 = .ok (.goto (-36), 3) := by decide +kernel
theorem dX10_convert_90 : decode cX10_convert 90 = .ok (.iload_n 3, 1) := by decide +kernel
theorem dX10_convert_91 : decode cX10_convert 91 = .ok (.ifCond .ne 5, 3) := by decide +kernel
theorem dX10_convert_94 : decode cX10_convert 94 = .ok (.iconst 0, 1) := by decide +kernel
theorem dX10_convert_95 : decode cX10_convert 95 = .ok (.ireturn, 1) := by decide +kernel
theorem dX10_convert_96 : decode cX10_convert 96 = .ok (.aload_n 0, 1) := by decide +kernel
theorem dX10_convert_97 : decode cX10_convert 97 = .ok (.getfield 28, 3) := by decide +kernel
theorem dX10_convert_100 : decode cX10_convert 100 = .ok (.iload_n 1, 1) := by decide +kernel
theorem dX10_convert_101 : decode cX10_convert 101 = .ok (.iload_n 2, 1) := by decide +kernel
theorem dX10_convert_102 : decode cX10_convert 102 = .ok (.iastore, 1) := by decide +kernel
theorem dX10_convert_103 : decode cX10_convert 103 = .ok (.aload_n 0, 1) := by decide +kernel
theorem dX10_convert_104 : decode cX10_convert 104 = .ok (.getfield 37, 3) := by decide +kernel
theorem dX10_convert_107 : decode cX10_convert 107 = .ok (.iload_n 1, 1) := by decide +kernel
theorem dX10_convert_108 : decode cX10_convert 108 = .ok (.iaload, 1) := by decide +kernel
theorem dX10_convert_109 : decode cX10_convert 109 = .ok (.iconst (-1), 1) := by decide +kernel
theorem dX10_convert_110 : decode cX10_convert 110 = .ok (.if_icmp .eq 36, 3) := by decide +kernel
theorem dX10_convert_113 : decode cX10_convert 113 = .ok (.aload_n 0, 1) := by decide +kernel
theorem dX10_convert_114 : decode cX10_convert 114 = .ok (.aload_n 0, 1) := by decide +kernel
theorem dX10_convert_115 : decode cX10_convert 115 = .ok (.getfield 58, 3) := by decide +kernel
theorem dX10_convert_118 : decode cX10_convert 118 = .ok (.aload_n 0, 1) := by decide +kernel
theorem dX10_convert_119 : decode cX10_convert 119 = .ok (.getfield 37, 3) := by decide +kernel
theorem dX10_convert_122 : decode cX10_convert 122 = .ok (.iload_n 1, 1) := by decide +kernel
theorem dX10_convert_123 : decode cX10_convert 123 = .ok (.iaload, 1) := by decide +kernel
theorem dX10_convert_124 : decode cX10_convert 124 = .ok (.iaload, 1) := by decide +kernel
theorem dX10_convert_125 : decode cX10_convert 125 = .ok (.iload_n 2, 1) := by decide +kernel
theorem dX10_convert_126 : decode cX10_convert 126 = .ok (.invokevirtual 114, 3) := by decide +kernel
theorem dX10_convert_129 : decode cX10_convert 129 = .ok (.ifCond .ne 17, 3) := by decide +kernel
theorem dX10_convert_132 : decode cX10_convert 132 = .ok (.aload_n 0, 1) := by decide +kernel
theorem dX10_convert_133 : decode cX10_convert 133 = .ok (.getfield 37, 3) := by decide +kernel
theorem dX10_convert_136 : decode cX10_convert 136 = .ok (.iload_n 1, 1) := by decide +kernel
theorem dX10_convert_137 : decode cX10_convert 137 = .ok (.iconst (-1), 1) := by decide +kernel
theorem dX10_convert_138 : decode cX10_convert 138 = .ok (.iastore, 1) := by decide +kernel
theorem dX10_convert_139 : decode cX10_convert 139 = .ok (.aload_n 0, 1) := by decide +kernel
theorem dX10_convert_140 : decode cX10_convert 140 = .ok (.getfield 40, 3) := by decide +kernel
theorem dX10_convert_143 : decode cX10_convert 143 = .ok (.iload_n 1, 1) := by decide +kernel
theorem dX10_convert_144 : decode cX10_convert 144 = .ok (.iconst (-1), 1) := by decide +kernel
theorem dX10_convert_145 : decode cX10_convert 145 = .ok (.iastore, 1) := by decide +kernel
theorem dX10_convert_146 : decode cX10_convert 146 = .ok (.aload_n 0, 1) := by decide +kernel
theorem dX10_convert_147 : decode cX10_convert 147 = .ok (.getfield 43, 3) := by decide +kernel
theorem dX10_convert_150 : decode cX10_convert 150 = .ok (.iload_n 1, 1) := by decide +kernel
theorem dX10_convert_151 : decode cX10_convert 151 = .ok (.iaload, 1) := by decide +kernel
theorem dX10_convert_152 : decode cX10_convert 152 = .ok (.iconst (-1), 1) := by decide +kernel
theorem dX10_convert_153 : decode cX10_convert 153 = .ok (.if_icmp .eq 29, 3) := by decide +kernel
theorem dX10_convert_156 : decode cX10_convert 156 = .ok (.aload_n 0, 1) := by decide +kernel
theorem dX10_convert_157 : decode cX10_convert 157 = .ok (.aload_n 0, 1) := by decide +kernel
theorem dX10_convert_158 : decode cX10_convert 158 = .ok (.getfield 64, 3) := by decide +kernel
theorem dX10_convert_161 : decode cX10_convert 161 = .ok (.aload_n 0, 1) := by decide +kernel
theorem dX10_convert_162 : decode cX10_convert 162 = .ok (.getfield 43, 3) := by decide +kernel
theorem dX10_convert_165 : decode cX10_convert 165 = .ok (.iload_n 1, 1) := by decide +kernel
theorem dX10_convert_166 : decode cX10_convert 166 = .ok (.iaload, 1) := by decide +kernel
theorem dX10_convert_167 : decode cX10_convert 167 = .ok (.iaload, 1) := by decide +kernel
theorem dX10_convert_168 : decode cX10_convert 168 = .ok (.iload_n 2, 1) := by decide +kernel
theorem dX10_convert_169 : decode cX10_convert 169 = .ok (.invokevirtual 114, 3) := by decide +kernel
theorem dX10_convert_172 : decode cX10_convert 172 = .ok (.ifCond .ne 10, 3) := by decide +kernel
theorem dX10_convert_175 : decode cX10_convert 175 = .ok (.aload_n 0, 1) := by decide +kernel
theorem dX10_convert_176 : decode cX10_convert 176 = .ok (.getfield 43, 3) := by decide +kernel
theorem dX10_convert_179 : decode cX10_convert 179 = .ok (.iload_n 1, 1) := by decide +kernel
theorem dX10_convert_180 : decode cX10_convert 180 = .ok (.iconst (-1), 1) := by decide +kernel
theorem dX10_convert_181 : decode cX10_convert 181 = .ok (.iastore, 1) := by decide +kernel
theorem dX10_convert_182 : decode cX10_convert 182 = .ok (.iconst 1, 1) := by decide +kernel
theorem dX10_convert_183 : decode cX10_convert 183 = .ok (.ireturn, 1) := by decide +kernel
theorem dX10_find_0 : decode cX10_find 0 = .ok (.iload_n 1, 1) := by decide +kernel
theorem dX10_find_1 : decode cX10_find 1 = .ok (.invokestatic 111, 3) := by decide +kernel
theorem dX10_find_4 : decode cX10_find 4 = .ok (.ifCond .ne 5, 3) := by decide +kernel
theorem dX10_find_7 : decode cX10_find 7 = .ok (.iconst (-1), 1) := by decide +kernel
theorem dX10_find_8 : decode cX10_find 8 = .ok (.ireturn, 1) := by decide +kernel
theorem dX10_find_9 : decode cX10_find 9 = .ok (.iconst 0, 1) := by decide +kernel
theorem dX10_find_10 : decode cX10_find 10 = .ok (.istore 4, 2) := by decide +kernel
theorem dX10_find_12 : decode cX10_find 12 = .ok (.iconst 0, 1) := by decide +kernel
theorem dX10_find_13 : decode cX10_find 13 = .ok (.istore 5, 2) := by decide +kernel
theorem dX10_find_15 : decode cX10_find 15 = .ok (.iload 5, 2) := by decide +kernel
theorem dX10_find_17 : decode cX10_find 17 = .ok (.aload_n 0, 1) := by decide +kernel
theorem dX10_find_18 : decode cX10_find 18 = .ok (.getfield 99, 3) := by decide +kernel
theorem dX10_find_21 : decode cX10_find 21 = .ok (.if_icmp .ge 49, 3) := by decide +kernel
theorem dX10_find_24 : decode cX10_find 24 = .ok (.iload 4, 2) := by decide +kernel
theorem dX10_find_26 : decode cX10_find 26 = .ok (.aload_n 0, 1) := by decide +kernel
theorem dX10_find_27 : decode cX10_find 27 = .ok (.iload_n 1, 1) := by decide +kernel
theorem dX10_find_28 : decode cX10_find 28 = .ok (.aload_n 0, 1) := by decide +kernel
theorem dX10_find_29 : decode cX10_find 29 = .ok (.getfield 28, 3) := by decide +kernel
theorem dX10_find_32 : decode cX10_find 32 = .ok (.iload 5, 2) := by decide +kernel
theorem dX10_find_34 : decode cX10_find 34 = .ok (.iaload, 1) := by decide +kernel
theorem dX10_find_35 : decode cX10_find 35 = .ok (.invokevirtual 114, 3) := by decide +kernel
theorem dX10_find_38 : decode cX10_find 38 = .ok (.ifCond .eq 22, 3) := by decide +kernel
theorem dX10_find_41 : decode cX10_find 41 = .ok (.aload_n 0, 1) := by decide +kernel
theorem dX10_find_42 : decode cX10_find 42 = .ok (.getfield 31, 3) := by decide +kernel
theorem dX10_find_45 : decode cX10_find 45 = .ok (.iload 5, 2) := by decide +kernel
theorem dX10_find_47 : decode cX10_find 47 = .ok (.iaload, 1) := by decide +kernel
theorem dX10_find_48 : decode cX10_find 48 = .ok (.iload_n 2, 1) := by decide +kernel
theorem dX10_find_49 : decode cX10_find 49 = .ok (.iload_n 3, 1) := by decide +kernel
theorem dX10_find_50 : decode cX10_find 50 = .ok (.invokestatic 88, 3) := by decide +kernel
theorem dX10_find_53 : decode cX10_find 53 = .ok (.ifCond .eq 7, 3) := by decide +kernel
theorem dX10_find_56 : decode cX10_find 56 = .ok (.iconst 1, 1) := by decide +kernel
theorem dX10_find_57 : decode cX10_find 57 = .ok (.goto 4, 3) := by decide +kernel
theorem dX10_find_60 : decode cX10_find 60 = .ok (.iconst 0, 1) := by decide +kernel
theorem dX10_find_61 : decode cX10_find 61 = .ok (.iadd, 1) := by decide +kernel
theorem dX10_find_62 : decode cX10_find 62 = .ok (.istore 4, 2) := by decide +kernel
theorem dX10_find_64 : decode cX10_find 64 = .ok (.iinc 5 1, 3) := by decide +kernel
theorem dX10_find_67 : decode cX10_find 67 = .ok (.goto (-52), 3) := by decide +kernel
theorem dX10_find_70 : decode cX10_find 70 = .ok (.iload 4, 2) := by decide +kernel
theorem dX10_find_72 : decode cX10_find 72 = .ok (.ireturn, 1) := by decide +kernel
theorem dX10_nth_0 : decode cX10_nth 0 = .ok (.iload_n 1, 1) := by decide +kernel
theorem dX10_nth_1 : decode cX10_nth 1 = .ok (.invokestatic 111, 3) := by decide +kernel
theorem dX10_nth_4 : decode cX10_nth 4 = .ok (.ifCond .ne 5, 3) := by decide +kernel
theorem dX10_nth_7 : decode cX10_nth 7 = .ok (.iconst (-1), 1) := by decide +kernel
theorem dX10_nth_8 : decode cX10_nth 8 = .ok (.ireturn, 1) := by decide +kernel
theorem dX10_nth_9 : decode cX10_nth 9 = .ok (.iconst 0, 1) := by decide +kernel
theorem dX10_nth_10 : decode cX10_nth 10 = .ok (.istore_n 3, 1) := by decide +kernel
theorem dX10_nth_11 : decode cX10_nth 11 = .ok (.iload_n 3, 1) := by decide +kernel
theorem dX10_nth_12 : decode cX10_nth 12 = .ok (.aload_n 0, 1) := by decide +kernel
theorem dX10_nth_13 : decode cX10_nth 13 = .ok (.getfield 99, 3) := by decide +kernel
theorem dX10_nth_16 : decode cX10_nth 16 = .ok (.if_icmp .ge 130, 3) := by decide +kernel
theorem dX10_nth_19 : decode cX10_nth 19 = .ok (.aload_n 0, 1) := by decide +kernel
theorem dX10_nth_20 : decode cX10_nth 20 = .ok (.iload_n 1, 1) := by decide +kernel
theorem dX10_nth_21 : decode cX10_nth 21 = .ok (.aload_n 0, 1) := by decide +kernel
theorem dX10_nth_22 : decode cX10_nth 22 = .ok (.getfield 28, 3) := by decide +kernel
theorem dX10_nth_25 : decode cX10_nth 25 = .ok (.iload_n 3, 1) := by decide +kernel
theorem dX10_nth_26 : decode cX10_nth 26 = .ok (.iaload, 1) := by decide +kernel
theorem dX10_nth_27 : decode cX10_nth 27 = .ok (.invokevirtual 114, 3) := by decide +kernel
theorem dX10_nth_30 : decode cX10_nth 30 = .ok (.ifCond .ne 6, 3) := by decide +kernel
theorem dX10_nth_33 : decode cX10_nth 33 = .ok (.goto 107, 3) := by decide +kernel
theorem dX10_nth_36 : decode cX10_nth 36 = .ok (.iconst 0, 1) := by decide +kernel
theorem dX10_nth_37 : decode cX10_nth 37 = .ok (.istore 4, 2) := by decide +kernel
theorem dX10_nth_39 : decode cX10_nth 39 = .ok (.iconst 0, 1) := by decide +kernel
theorem dX10_nth_40 : decode cX10_nth 40 = .ok (.istore 5, 2) := by decide +kernel
theorem dX10_nth_42 : decode cX10_nth 42 = .ok (.iload 5, 2) := by decide +kernel
theorem dX10_nth_44 : decode cX10_nth 44 = .ok (.aload_n 0, 1) := by decide +kernel
theorem dX10_nth_45 : decode cX10_nth 45 = .ok (.getfield 99, 3) := by decide +kernel
theorem dX10_nth_48 : decode cX10_nth 48 = .ok (.if_icmp .ge 84, 3) := by decide +kernel
theorem dX10_nth_51 : decode cX10_nth 51 = .ok (.aload_n 0, 1) := by decide +kernel
theorem dX10_nth_52 : decode cX10_nth 52 = .ok (.getfield 31, 3) := by decide +kernel
theorem dX10_nth_55 : decode cX10_nth 55 = .ok (.iload 5, 2) := by decide +kernel
theorem dX10_nth_57 : decode cX10_nth 57 = .ok (.iaload, 1) := by decide +kernel
theorem dX10_nth_58 : decode cX10_nth 58 = .ok (.aload_n 0, 1) := by decide +kernel
theorem dX10_nth_59 : decode cX10_nth 59 = .ok (.getfield 31, 3) := by decide +kernel
theorem dX10_nth_62 : decode cX10_nth 62 = .ok (.iload_n 3, 1) := by decide +kernel
theorem dX10_nth_63 : decode cX10_nth 63 = .ok (.iaload, 1) := by decide +kernel
theorem dX10_nth_64 : decode cX10_nth 64 = .ok (.if_icmp .lt 25, 3) := by decide +kernel
theorem dX10_nth_67 : decode cX10_nth 67 = .ok (.aload_n 0, 1) := by decide +kernel
theorem dX10_nth_68 : decode cX10_nth 68 = .ok (.getfield 31, 3) := by decide +kernel
theorem dX10_nth_71 : decode cX10_nth 71 = .ok (.iload 5, 2) := by decide +kernel
theorem dX10_nth_73 : decode cX10_nth 73 = .ok (.iaload, 1) := by decide +kernel
theorem dX10_nth_74 : decode cX10_nth 74 = .ok (.aload_n 0, 1) := by decide +kernel
theorem dX10_nth_75 : decode cX10_nth 75 = .ok (.getfield 31, 3) := by decide +kernel
theorem dX10_nth_78 : decode cX10_nth 78 = .ok (.iload_n 3, 1) := by decide +kernel
theorem dX10_nth_79 : decode cX10_nth 79 = .ok (.iaload, 1) := by decide +kernel
theorem dX10_nth_80 : decode cX10_nth 80 = .ok (.if_icmp .ne 13, 3) := by decide +kernel
theorem dX10_nth_83 : decode cX10_nth 83 = .ok (.iload 5, 2) := by decide +kernel
theorem dX10_nth_85 : decode cX10_nth 85 = .ok (.iload_n 3, 1) := by decide +kernel
theorem dX10_nth_86 : decode cX10_nth 86 = .ok (.if_icmp .ge 7, 3) := by decide +kernel
theorem dX10_nth_89 : decode cX10_nth 89 = .ok (.iconst 1, 1) := by decide +kernel
theorem dX10_nth_90 : decode cX10_nth 90 = .ok (.goto 4, 3) := by decide +kernel
theorem dX10_nth_93 : decode cX10_nth 93 = .ok (.iconst 0, 1) := by decide +kernel
theorem dX10_nth_94 : decode cX10_nth 94 = .ok (.istore 6, 2) := by decide +kernel
theorem dX10_nth_96 : decode cX10_nth 96 = .ok (.iload 4, 2) := by decide +kernel
theorem dX10_nth_98 : decode cX10_nth 98 = .ok (.iload 6, 2) := by decide +kernel
theorem dX10_nth_100 : decode cX10_nth 100 = .ok (.ifCond .eq 22, 3) := by decide +kernel
theorem dX10_nth_103 : decode cX10_nth 103 = .ok (.aload_n 0, 1) := by decide +kernel
theorem dX10_nth_104 : decode cX10_nth 104 = .ok (.iload_n 1, 1) := by decide +kernel
theorem dX10_nth_105 : decode cX10_nth 105 = .ok (.aload_n 0, 1) := by decide +kernel
theorem dX10_nth_106 : decode cX10_nth 106 = .ok (.getfield 28, 3) := by decide +kernel
theorem dX10_nth_109 : decode cX10_nth 109 = .ok (.iload 5, 2) := by decide +kernel
theorem dX10_nth_111 : decode cX10_nth 111 = .ok (.iaload, 1) := by decide +kernel
theorem dX10_nth_112 : decode cX10_nth 112 = .ok (.invokevirtual 114, 3) := by decide +kernel
theorem dX10_nth_115 : decode cX10_nth 115 = .ok (.ifCond .eq 7, 3) := by decide +kernel
theorem dX10_nth_118 : decode cX10_nth 118 = .ok (.iconst 1, 1) := by decide +kernel
theorem dX10_nth_119 : decode cX10_nth 119 = .ok (.goto 4, 3) := by decide +kernel
theorem dX10_nth_122 : decode cX10_nth 122 = .ok (.iconst 0, 1) := by decide +kernel
theorem dX10_nth_123 : decode cX10_nth 123 = .ok (.iadd, 1) := by decide +kernel
theorem dX10_nth_124 : decode cX10_nth 124 = .ok (.istore 4, 2) := by decide +kernel
theorem dX10_nth_126 : decode cX10_nth 126 = .ok (.iinc 5 1, 3) := by decide +kernel
theorem dX10_nth_129 : decode cX10_nth 129 = .ok (.goto (-87), 3) := by decide +kernel
theorem dX10_nth_132 : decode cX10_nth 132 = .ok (.iload 4, 2) := by decide +kernel
theorem dX10_nth_134 : decode cX10_nth 134 = .ok (.iload_n 2, 1) := by decide +kernel
theorem dX10_nth_135 : decode cX10_nth 135 = .ok (.if_icmp .ne 5, 3) := by decide +kernel
theorem dX10_nth_138 : decode cX10_nth 138 = .ok (.iload_n 3, 1) := by decide +kernel
theorem dX10_nth_139 : decode cX10_nth 139 = .ok (.ireturn, 1) := by decide +kernel
theorem dX10_nth_140 : decode cX10_nth 140 = .ok (.iinc 3 1, 3) := by decide +kernel
theorem dX10_nth_143 : decode cX10_nth 143 = .ok (.goto (-132), 3) := by decide +kernel
theorem dX10_nth_146 : decode cX10_nth 146 = .ok (.iconst (-1), 1) := by decide +kernel
theorem dX10_nth_147 : decode cX10_nth 147 = .ok (.ireturn, 1) := by decide +kernel
theorem dX10_used_0 : decode cX10_used 0 = .ok (.iconst 0, 1) := by decide +kernel
theorem dX10_used_1 : decode cX10_used 1 = .ok (.istore_n 2, 1) := by decide +kernel
theorem dX10_used_2 : decode cX10_used 2 = .ok (.iconst 0, 1) := by decide +kernel
theorem dX10_used_3 : decode cX10_used 3 = .ok (.istore_n 3, 1) := by decide +kernel
theorem dX10_used_4 : decode cX10_used 4 = .ok (.iload_n 3, 1) := by decide +kernel
theorem dX10_used_5 : decode cX10_used 5 = .ok (.aload_n 0, 1) := by decide +kernel
theorem dX10_used_6 : decode cX10_used 6 = .ok (.getfield 99, 3) := by decide +kernel
theorem dX10_used_9 : decode cX10_used 9 = .ok (.if_icmp .ge 32, 3) := by decide +kernel
theorem dX10_used_12 : decode cX10_used 12 = .ok (.iload_n 2, 1) := by decide +kernel
theorem dX10_used_13 : decode cX10_used 13 = .ok (.aload_n 0, 1) := by decide +kernel
theorem dX10_used_14 : decode cX10_used 14 = .ok (.getfield 43, 3) := by decide +kernel
theorem dX10_used_17 : decode cX10_used 17 = .ok (.iload_n 3, 1) := by decide +kernel
theorem dX10_used_18 : decode cX10_used 18 = .ok (.iaload, 1) := by decide +kernel
theorem dX10_used_19 : decode cX10_used 19 = .ok (.iload_n 1, 1) := by decide +kernel
theorem dX10_used_20 : decode cX10_used 20 = .ok (.if_icmp .ne 12, 3) := by decide +kernel
theorem dX10_used_23 : decode cX10_used 23 = .ok (.aload_n 0, 1) := by decide +kernel
theorem dX10_used_24 : decode cX10_used 24 = .ok (.getfield 31, 3) := by decide +kernel
theorem dX10_used_27 : decode cX10_used 27 = .ok (.iload_n 3, 1) := by decide +kernel
theorem dX10_used_28 : decode cX10_used 28 = .ok (.iaload, 1) := by decide +kernel
theorem dX10_used_29 : decode cX10_used 29 = .ok (.goto 4, 3) := by decide +kernel
theorem dX10_used_32 : decode cX10_used 32 = .ok (.iconst 0, 1) := by decide +kernel
theorem dX10_used_33 : decode cX10_used 33 = .ok (.iadd, 1) := by decide +kernel
theorem dX10_used_34 : decode cX10_used 34 = .ok (.istore_n 2, 1) := by decide +kernel
theorem dX10_used_35 : decode cX10_used 35 = .ok (.iinc 3 1, 3) := by decide +kernel
theorem dX10_used_38 : decode cX10_used 38 = .ok (.goto (-34), 3) := by decide +kernel
theorem dX10_used_41 : decode cX10_used 41 = .ok (.iload_n 2, 1) := by decide +kernel
theorem dX10_used_42 : decode cX10_used 42 = .ok (.ireturn, 1) := by decide +kernel
theorem dX10_shelf_0 : decode cX10_shelf 0 = .ok (.iload_n 1, 1) := by decide +kernel
theorem dX10_shelf_1 : decode cX10_shelf 1 = .ok (.iconst 0, 1) := by decide +kernel
theorem dX10_shelf_2 : decode cX10_shelf 2 = .ok (.bipush 9, 2) := by decide +kernel
theorem dX10_shelf_4 : decode cX10_shelf 4 = .ok (.invokestatic 88, 3) := by decide +kernel
theorem dX10_shelf_7 : decode cX10_shelf 7 = .ok (.ifCond .eq 20, 3) := by decide +kernel
theorem dX10_shelf_10 : decode cX10_shelf 10 = .ok (.iload_n 2, 1) := by decide +kernel
theorem dX10_shelf_11 : decode cX10_shelf 11 = .ok (.invokestatic 92, 3) := by decide +kernel
theorem dX10_shelf_14 : decode cX10_shelf 14 = .ok (.ifCond .eq 13, 3) := by decide +kernel
theorem dX10_shelf_17 : decode cX10_shelf 17 = .ok (.iload_n 3, 1) := by decide +kernel
theorem dX10_shelf_18 : decode cX10_shelf 18 = .ok (.iconst 0, 1) := by decide +kernel
theorem dX10_shelf_19 : decode cX10_shelf 19 = .ok (.ldc 181, 2) := by decide +kernel
theorem dX10_shelf_21 : decode cX10_shelf 21 = .ok (.invokestatic 88, 3) := by decide +kernel
theorem dX10_shelf_24 : decode cX10_shelf 24 = .ok (.ifCond .ne 5, 3) := by decide +kernel
theorem dX10_shelf_27 : decode cX10_shelf 27 = .ok (.iconst 0, 1) := by decide +kernel
theorem dX10_shelf_28 : decode cX10_shelf 28 = .ok (.ireturn, 1) := by decide +kernel
theorem dX10_shelf_29 : decode cX10_shelf 29 = .ok (.iconst 0, 1) := by decide +kernel
theorem dX10_shelf_30 : decode cX10_shelf 30 = .ok (.istore 4, 2) := by decide +kernel
theorem dX10_shelf_32 : decode cX10_shelf 32 = .ok (.iload 4, 2) := by decide +kernel
theorem dX10_shelf_34 : decode cX10_shelf 34 = .ok (.aload_n 0, 1) := by decide +kernel
theorem dX10_shelf_35 : decode cX10_shelf 35 = .ok (.getfield 99, 3) := by decide +kernel
theorem dX10_shelf_38 : decode cX10_shelf 38 = .ok (.if_icmp .ge 22, 3) := by decide +kernel
theorem dX10_shelf_41 : decode cX10_shelf 41 = .ok (.aload_n 0, 1) := by decide +kernel
theorem dX10_shelf_42 : decode cX10_shelf 42 = .ok (.getfield 43, 3) := by decide +kernel
theorem dX10_shelf_45 : decode cX10_shelf 45 = .ok (.iload 4, 2) := by decide +kernel
theorem dX10_shelf_47 : decode cX10_shelf 47 = .ok (.iaload, 1) := by decide +kernel
theorem dX10_shelf_48 : decode cX10_shelf 48 = .ok (.iload_n 1, 1) := by decide +kernel
theorem dX10_shelf_49 : decode cX10_shelf 49 = .ok (.if_icmp .ne 5, 3) := by decide +kernel
theorem dX10_shelf_52 : decode cX10_shelf 52 = .ok (.iconst 0, 1) := by decide +kernel
theorem dX10_shelf_53 : decode cX10_shelf 53 = .ok (.ireturn, 1) := by decide +kernel
theorem dX10_shelf_54 : decode cX10_shelf 54 = .ok (.iinc 4 1, 3) := by decide +kernel
theorem dX10_shelf_57 : decode cX10_shelf 57 = .ok (.goto (-25), 3) := by decide +kernel
theorem dX10_shelf_60 : decode cX10_shelf 60 = .ok (.aload_n 0, 1) := by decide +kernel
theorem dX10_shelf_61 : decode cX10_shelf 61 = .ok (.getfield 64, 3) := by decide +kernel
theorem dX10_shelf_64 : decode cX10_shelf 64 = .ok (.iload_n 1, 1) := by decide +kernel
theorem dX10_shelf_65 : decode cX10_shelf 65 = .ok (.iload_n 2, 1) := by decide +kernel
theorem dX10_shelf_66 : decode cX10_shelf 66 = .ok (.iastore, 1) := by decide +kernel
theorem dX10_shelf_67 : decode cX10_shelf 67 = .ok (.aload_n 0, 1) := by decide +kernel
theorem dX10_shelf_68 : decode cX10_shelf 68 = .ok (.getfield 67, 3) := by decide +kernel
theorem dX10_shelf_71 : decode cX10_shelf 71 = .ok (.iload_n 1, 1) := by decide +kernel
theorem dX10_shelf_72 : decode cX10_shelf 72 = .ok (.iload_n 3, 1) := by decide +kernel
theorem dX10_shelf_73 : decode cX10_shelf 73 = .ok (.iastore, 1) := by decide +kernel
theorem dX10_shelf_74 : decode cX10_shelf 74 = .ok (.iconst 1, 1) := by decide +kernel
theorem dX10_shelf_75 : decode cX10_shelf 75 = .ok (.ireturn, 1) := by decide +kernel
theorem dX10_move_0 : decode cX10_move 0 = .ok (.aload_n 0, 1) := by decide +kernel
theorem dX10_move_1 : decode cX10_move 1 = .ok (.iload_n 1, 1) := by decide +kernel
theorem dX10_move_2 : decode cX10_move 2 = .ok (.invokevirtual 130, 3) := by decide +kernel
theorem dX10_move_5 : decode cX10_move 5 = .ok (.ifCond .eq 33, 3) := by decide +kernel
theorem dX10_move_8 : decode cX10_move 8 = .ok (.iload_n 2, 1) := by decide +kernel
theorem dX10_move_9 : decode cX10_move 9 = .ok (.iconst (-1), 1) := by decide +kernel
theorem dX10_move_10 : decode cX10_move 10 = .ok (.bipush 9, 2) := by decide +kernel
theorem dX10_move_12 : decode cX10_move 12 = .ok (.invokestatic 88, 3) := by decide +kernel
theorem dX10_move_15 : decode cX10_move 15 = .ok (.ifCond .eq 23, 3) := by decide +kernel
theorem dX10_move_18 : decode cX10_move 18 = .ok (.aload_n 0, 1) := by decide +kernel
theorem dX10_move_19 : decode cX10_move 19 = .ok (.getfield 43, 3) := by decide +kernel
theorem dX10_move_22 : decode cX10_move 22 = .ok (.iload_n 1, 1) := by decide +kernel
theorem dX10_move_23 : decode cX10_move 23 = .ok (.iaload, 1) := by decide +kernel
theorem dX10_move_24 : decode cX10_move 24 = .ok (.iload_n 2, 1) := by decide +kernel
theorem dX10_move_25 : decode cX10_move 25 = .ok (.if_icmp .eq 13, 3) := by decide +kernel
theorem dX10_move_28 : decode cX10_move 28 = .ok (.aload_n 0, 1) := by decide +kernel
theorem dX10_move_29 : decode cX10_move 29 = .ok (.getfield 46, 3) := by decide +kernel
theorem dX10_move_32 : decode cX10_move 32 = .ok (.iload_n 1, 1) := by decide +kernel
theorem dX10_move_33 : decode cX10_move 33 = .ok (.iaload, 1) := by decide +kernel
theorem dX10_move_34 : decode cX10_move 34 = .ok (.iconst (-1), 1) := by decide +kernel
theorem dX10_move_35 : decode cX10_move 35 = .ok (.if_icmp .eq 5, 3) := by decide +kernel
theorem dX10_move_38 : decode cX10_move 38 = .ok (.iconst 0, 1) := by decide +kernel
theorem dX10_move_39 : decode cX10_move 39 = .ok (.ireturn, 1) := by decide +kernel
theorem dX10_move_40 : decode cX10_move 40 = .ok (.iload_n 2, 1) := by decide +kernel
theorem dX10_move_41 : decode cX10_move 41 = .ok (.iconst (-1), 1) := by decide +kernel
theorem dX10_move_42 : decode cX10_move 42 = .ok (.if_icmp .eq 45, 3) := by decide +kernel
theorem dX10_move_45 : decode cX10_move 45 = .ok (.aload_n 0, 1) := by decide +kernel
theorem dX10_move_46 : decode cX10_move 46 = .ok (.aload_n 0, 1) := by decide +kernel
theorem dX10_move_47 : decode cX10_move 47 = .ok (.getfield 64, 3) := by decide +kernel
theorem dX10_move_50 : decode cX10_move 50 = .ok (.iload_n 2, 1) := by decide +kernel
theorem dX10_move_51 : decode cX10_move 51 = .ok (.iaload, 1) := by decide +kernel
theorem dX10_move_52 : decode cX10_move 52 = .ok (.aload_n 0, 1) := by decide +kernel
theorem dX10_move_53 : decode cX10_move 53 = .ok (.getfield 28, 3) := by decide +kernel
theorem dX10_move_56 : decode cX10_move 56 = .ok (.iload_n 1, 1) := by decide +kernel
theorem dX10_move_57 : decode cX10_move 57 = .ok (.iaload, 1) := by decide +kernel
theorem dX10_move_58 : decode cX10_move 58 = .ok (.invokevirtual 114, 3) := by decide +kernel
theorem dX10_move_61 : decode cX10_move 61 = .ok (.ifCond .eq 24, 3) := by decide +kernel
theorem dX10_move_64 : decode cX10_move 64 = .ok (.aload_n 0, 1) := by decide +kernel
theorem dX10_move_65 : decode cX10_move 65 = .ok (.iload_n 2, 1) := by decide +kernel
theorem dX10_move_66 : decode cX10_move 66 = .ok (.invokevirtual 182, 3) := by decide +kernel
theorem dX10_move_69 : decode cX10_move 69 = .ok (.aload_n 0, 1) := by decide +kernel
theorem dX10_move_70 : decode cX10_move 70 = .ok (.getfield 31, 3) := by decide +kernel
theorem dX10_move_73 : decode cX10_move 73 = .ok (.iload_n 1, 1) := by decide +kernel
theorem dX10_move_74 : decode cX10_move 74 = .ok (.iaload, 1) := by decide +kernel
theorem dX10_move_75 : decode cX10_move 75 = .ok (.iadd, 1) := by decide +kernel
theorem dX10_move_76 : decode cX10_move 76 = .ok (.aload_n 0, 1) := by decide +kernel
theorem dX10_move_77 : decode cX10_move 77 = .ok (.getfield 67, 3) := by decide +kernel
theorem dX10_move_80 : decode cX10_move 80 = .ok (.iload_n 2, 1) := by decide +kernel
theorem dX10_move_81 : decode cX10_move 81 = .ok (.iaload, 1) := by decide +kernel
theorem dX10_move_82 : decode cX10_move 82 = .ok (.if_icmp .le 5, 3) := by decide +kernel
theorem dX10_move_85 : decode cX10_move 85 = .ok (.iconst 0, 1) := by decide +kernel
theorem dX10_move_86 : decode cX10_move 86 = .ok (.ireturn, 1) := by decide +kernel
theorem dX10_move_87 : decode cX10_move 87 = .ok (.aload_n 0, 1) := by decide +kernel
theorem dX10_move_88 : decode cX10_move 88 = .ok (.getfield 43, 3) := by decide +kernel
theorem dX10_move_91 : decode cX10_move 91 = .ok (.iload_n 1, 1) := by decide +kernel
theorem dX10_move_92 : decode cX10_move 92 = .ok (.iload_n 2, 1) := by decide +kernel
theorem dX10_move_93 : decode cX10_move 93 = .ok (.iastore, 1) := by decide +kernel
theorem dX10_move_94 : decode cX10_move 94 = .ok (.iconst 1, 1) := by decide +kernel
theorem dX10_move_95 : decode cX10_move 95 = .ok (.ireturn, 1) := by decide +kernel
theorem dX10_count_0 : decode cX10_count 0 = .ok (.iconst 0, 1) := by decide +kernel
theorem dX10_count_1 : decode cX10_count 1 = .ok (.istore_n 2, 1) := by decide +kernel
theorem dX10_count_2 : decode cX10_count 2 = .ok (.iload_n 1, 1) := by decide +kernel
theorem dX10_count_3 : decode cX10_count 3 = .ok (.tableswitch 228 0 7 #[45, 50, 55, 90, 126, 131, 167, 203], 45) := by decide +kernel
theorem dX10_count_48 : decode cX10_count 48 = .ok (.aload_n 0, 1) := by decide +kernel
theorem dX10_count_49 : decode cX10_count 49 = .ok (.getfield 99, 3) := by decide +kernel
theorem dX10_count_52 : decode cX10_count 52 = .ok (.ireturn, 1) := by decide +kernel
theorem dX10_count_53 : decode cX10_count 53 = .ok (.aload_n 0, 1) := by decide +kernel
theorem dX10_count_54 : decode cX10_count 54 = .ok (.getfield 124, 3) := by decide +kernel
theorem dX10_count_57 : decode cX10_count 57 = .ok (.ireturn, 1) := by decide +kernel
theorem dX10_count_58 : decode cX10_count 58 = .ok (.iconst 0, 1) := by decide +kernel
theorem dX10_count_59 : decode cX10_count 59 = .ok (.istore_n 3, 1) := by decide +kernel
theorem dX10_count_60 : decode cX10_count 60 = .ok (.iload_n 3, 1) := by decide +kernel
theorem dX10_count_61 : decode cX10_count 61 = .ok (.sipush 245, 3) := by decide +kernel
theorem dX10_count_64 : decode cX10_count 64 = .ok (.if_icmp .ge 27, 3) := by decide +kernel
theorem dX10_count_67 : decode cX10_count 67 = .ok (.iload_n 2, 1) := by decide +kernel
theorem dX10_count_68 : decode cX10_count 68 = .ok (.aload_n 0, 1) := by decide +kernel
theorem dX10_count_69 : decode cX10_count 69 = .ok (.getfield 25, 3) := by decide +kernel
theorem dX10_count_72 : decode cX10_count 72 = .ok (.iload_n 3, 1) := by decide +kernel
theorem dX10_count_73 : decode cX10_count 73 = .ok (.iaload, 1) := by decide +kernel
theorem dX10_count_74 : decode cX10_count 74 = .ok (.iconst (-1), 1) := by decide +kernel
theorem dX10_count_75 : decode cX10_count 75 = .ok (.if_icmp .eq 7, 3) := by decide +kernel
theorem dX10_count_78 : decode cX10_count 78 = .ok (.iconst 1, 1) := by decide +kernel
theorem dX10_count_79 : decode cX10_count 79 = .ok (.goto 4, 3) := by decide +kernel
theorem dX10_count_82 : decode cX10_count 82 = .ok (.iconst 0, 1) := by decide +kernel
theorem dX10_count_83 : decode cX10_count 83 = .ok (.iadd, 1) := by decide +kernel
theorem dX10_count_84 : decode cX10_count 84 = .ok (.istore_n 2, 1) := by decide +kernel
theorem dX10_count_85 : decode cX10_count 85 = .ok (.iinc 3 1, 3) := by decide +kernel
theorem dX10_count_88 : decode cX10_count 88 = .ok (.goto (-28), 3) := by decide +kernel
theorem dX10_count_91 : decode cX10_count 91 = .ok (.iload_n 2, 1) := by decide +kernel
theorem dX10_count_92 : decode cX10_count 92 = .ok (.ireturn, 1) := by decide +kernel
theorem dX10_count_93 : decode cX10_count 93 = .ok (.iconst 0, 1) := by decide +kernel
theorem dX10_count_94 : decode cX10_count 94 = .ok (.istore_n 3, 1) := by decide +kernel
theorem dX10_count_95 : decode cX10_count 95 = .ok (.iload_n 3, 1) := by decide +kernel
theorem dX10_count_96 : decode cX10_count 96 = .ok (.aload_n 0, 1) := by decide +kernel
theorem dX10_count_97 : decode cX10_count 97 = .ok (.getfield 99, 3) := by decide +kernel
theorem dX10_count_100 : decode cX10_count 100 = .ok (.if_icmp .ge 27, 3) := by decide +kernel
theorem dX10_count_103 : decode cX10_count 103 = .ok (.iload_n 2, 1) := by decide +kernel
theorem dX10_count_104 : decode cX10_count 104 = .ok (.aload_n 0, 1) := by decide +kernel
theorem dX10_count_105 : decode cX10_count 105 = .ok (.getfield 46, 3) := by decide +kernel
theorem dX10_count_108 : decode cX10_count 108 = .ok (.iload_n 3, 1) := by decide +kernel
theorem dX10_count_109 : decode cX10_count 109 = .ok (.iaload, 1) := by decide +kernel
theorem dX10_count_110 : decode cX10_count 110 = .ok (.iconst (-1), 1) := by decide +kernel
theorem dX10_count_111 : decode cX10_count 111 = .ok (.if_icmp .eq 7, 3) := by decide +kernel
theorem dX10_count_114 : decode cX10_count 114 = .ok (.iconst 1, 1) := by decide +kernel
theorem dX10_count_115 : decode cX10_count 115 = .ok (.goto 4, 3) := by decide +kernel
theorem dX10_count_118 : decode cX10_count 118 = .ok (.iconst 0, 1) := by decide +kernel
theorem dX10_count_119 : decode cX10_count 119 = .ok (.iadd, 1) := by decide +kernel
theorem dX10_count_120 : decode cX10_count 120 = .ok (.istore_n 2, 1) := by decide +kernel
theorem dX10_count_121 : decode cX10_count 121 = .ok (.iinc 3 1, 3) := by decide +kernel
theorem dX10_count_124 : decode cX10_count 124 = .ok (.goto (-29), 3) := by decide +kernel
theorem dX10_count_127 : decode cX10_count 127 = .ok (.iload_n 2, 1) := by decide +kernel
theorem dX10_count_128 : decode cX10_count 128 = .ok (.ireturn, 1) := by decide +kernel
theorem dX10_count_129 : decode cX10_count 129 = .ok (.aload_n 0, 1) := by decide +kernel
theorem dX10_count_130 : decode cX10_count 130 = .ok (.getfield 152, 3) := by decide +kernel
theorem dX10_count_133 : decode cX10_count 133 = .ok (.ireturn, 1) := by decide +kernel
theorem dX10_count_134 : decode cX10_count 134 = .ok (.iconst 0, 1) := by decide +kernel
theorem dX10_count_135 : decode cX10_count 135 = .ok (.istore_n 3, 1) := by decide +kernel
theorem dX10_count_136 : decode cX10_count 136 = .ok (.iload_n 3, 1) := by decide +kernel
theorem dX10_count_137 : decode cX10_count 137 = .ok (.aload_n 0, 1) := by decide +kernel
theorem dX10_count_138 : decode cX10_count 138 = .ok (.getfield 99, 3) := by decide +kernel
theorem dX10_count_141 : decode cX10_count 141 = .ok (.if_icmp .ge 27, 3) := by decide +kernel
theorem dX10_count_144 : decode cX10_count 144 = .ok (.iload_n 2, 1) := by decide +kernel
theorem dX10_count_145 : decode cX10_count 145 = .ok (.aload_n 0, 1) := by decide +kernel
theorem dX10_count_146 : decode cX10_count 146 = .ok (.getfield 37, 3) := by decide +kernel
theorem dX10_count_149 : decode cX10_count 149 = .ok (.iload_n 3, 1) := by decide +kernel
theorem dX10_count_150 : decode cX10_count 150 = .ok (.iaload, 1) := by decide +kernel
theorem dX10_count_151 : decode cX10_count 151 = .ok (.iconst (-1), 1) := by decide +kernel
theorem dX10_count_152 : decode cX10_count 152 = .ok (.if_icmp .eq 7, 3) := by decide +kernel
theorem dX10_count_155 : decode cX10_count 155 = .ok (.iconst 1, 1) := by decide +kernel
theorem dX10_count_156 : decode cX10_count 156 = .ok (.goto 4, 3) := by decide +kernel
theorem dX10_count_159 : decode cX10_count 159 = .ok (.iconst 0, 1) := by decide +kernel
theorem dX10_count_160 : decode cX10_count 160 = .ok (.iadd, 1) := by decide +kernel
theorem dX10_count_161 : decode cX10_count 161 = .ok (.istore_n 2, 1) := by decide +kernel
theorem dX10_count_162 : decode cX10_count 162 = .ok (.iinc 3 1, 3) := by decide +kernel
theorem dX10_count_165 : decode cX10_count 165 = .ok (.goto (-29), 3) := by decide +kernel
theorem dX10_count_168 : decode cX10_count 168 = .ok (.iload_n 2, 1) := by decide +kernel
theorem dX10_count_169 : decode cX10_count 169 = .ok (.ireturn, 1) := by decide +kernel
theorem dX10_count_170 : decode cX10_count 170 = .ok (.iconst 0, 1) := by decide +kernel
theorem dX10_count_171 : decode cX10_count 171 = .ok (.istore_n 3, 1) := by decide +kernel
theorem dX10_count_172 : decode cX10_count 172 = .ok (.iload_n 3, 1) := by decide +kernel
theorem dX10_count_173 : decode cX10_count 173 = .ok (.aload_n 0, 1) := by decide +kernel
theorem dX10_count_174 : decode cX10_count 174 = .ok (.getfield 99, 3) := by decide +kernel
theorem dX10_count_177 : decode cX10_count 177 = .ok (.if_icmp .ge 27, 3) := by decide +kernel
theorem dX10_count_180 : decode cX10_count 180 = .ok (.iload_n 2, 1) := by decide +kernel
theorem dX10_count_181 : decode cX10_count 181 = .ok (.aload_n 0, 1) := by decide +kernel
theorem dX10_count_182 : decode cX10_count 182 = .ok (.getfield 43, 3) := by decide +kernel
theorem dX10_count_185 : decode cX10_count 185 = .ok (.iload_n 3, 1) := by decide +kernel
theorem dX10_count_186 : decode cX10_count 186 = .ok (.iaload, 1) := by decide +kernel
theorem dX10_count_187 : decode cX10_count 187 = .ok (.iconst (-1), 1) := by decide +kernel
theorem dX10_count_188 : decode cX10_count 188 = .ok (.if_icmp .eq 7, 3) := by decide +kernel
theorem dX10_count_191 : decode cX10_count 191 = .ok (.iconst 1, 1) := by decide +kernel
theorem dX10_count_192 : decode cX10_count 192 = .ok (.goto 4, 3) := by decide +kernel
theorem dX10_count_195 : decode cX10_count 195 = .ok (.iconst 0, 1) := by decide +kernel
theorem dX10_count_196 : decode cX10_count 196 = .ok (.iadd, 1) := by decide +kernel
theorem dX10_count_197 : decode cX10_count 197 = .ok (.istore_n 2, 1) := by decide +kernel
theorem dX10_count_198 : decode cX10_count 198 = .ok (.iinc 3 1, 3) := by decide +kernel
theorem dX10_count_201 : decode cX10_count 201 = .ok (.goto (-29), 3) := by decide +kernel
theorem dX10_count_204 : decode cX10_count 204 = .ok (.iload_n 2, 1) := by decide +kernel
theorem dX10_count_205 : decode cX10_count 205 = .ok (.ireturn, 1) := by decide +kernel
theorem dX10_count_206 : decode cX10_count 206 = .ok (.iconst 0, 1) := by decide +kernel
theorem dX10_count_207 : decode cX10_count 207 = .ok (.istore_n 3, 1) := by decide +kernel
theorem dX10_count_208 : decode cX10_count 208 = .ok (.iload_n 3, 1) := by decide +kernel
theorem dX10_count_209 : decode cX10_count 209 = .ok (.bipush 20, 2) := by decide +kernel
theorem dX10_count_211 : decode cX10_count 211 = .ok (.if_icmp .ge 18, 3) := by decide +kernel
theorem dX10_count_214 : decode cX10_count 214 = .ok (.iload_n 2, 1) := by decide +kernel
theorem dX10_count_215 : decode cX10_count 215 = .ok (.aload_n 0, 1) := by decide +kernel
theorem dX10_count_216 : decode cX10_count 216 = .ok (.getfield 70, 3) := by decide +kernel
theorem dX10_count_219 : decode cX10_count 219 = .ok (.iload_n 3, 1) := by decide +kernel
theorem dX10_count_220 : decode cX10_count 220 = .ok (.iaload, 1) := by decide +kernel
theorem dX10_count_221 : decode cX10_count 221 = .ok (.iadd, 1) := by decide +kernel
theorem dX10_count_222 : decode cX10_count 222 = .ok (.istore_n 2, 1) := by decide +kernel
theorem dX10_count_223 : decode cX10_count 223 = .ok (.iinc 3 1, 3) := by decide +kernel
theorem dX10_count_226 : decode cX10_count 226 = .ok (.goto (-18), 3) := by decide +kernel
theorem dX10_count_229 : decode cX10_count 229 = .ok (.iload_n 2, 1) := by decide +kernel
theorem dX10_count_230 : decode cX10_count 230 = .ok (.ireturn, 1) := by decide +kernel
theorem dX10_count_231 : decode cX10_count 231 = .ok (.iconst (-1), 1) := by decide +kernel
theorem dX10_count_232 : decode cX10_count 232 = .ok (.ireturn, 1) := by decide +kernel
