theorem dX9_init_0 : decode cX9_init 0 = .ok (.aload_n 0, 1) := by decide +kernel
theorem dX9_init_1 : decode cX9_init 1 = .ok (.invokespecial 1, 3) := by decide +kernel
theorem dX9_init_4 : decode cX9_init 4 = .ok (.aload_n 0, 1) := by decide +kernel
theorem dX9_init_5 : decode cX9_init 5 = .ok (.sipush 9000, 3) := by decide +kernel
theorem dX9_init_8 : decode cX9_init 8 = .ok (.newarray .long, 2) := by decide +kernel
theorem dX9_init_10 : decode cX9_init 10 = .ok (.putfield 7, 3) := by decide +kernel
theorem dX9_init_13 : decode cX9_init 13 = .ok (.aload_n 0, 1) := by decide +kernel
theorem dX9_init_14 : decode cX9_init 14 = .ok (.sipush 16800, 3) := by decide +kernel
theorem dX9_init_17 : decode cX9_init 17 = .ok (.newarray .long, 2) := by decide +kernel
theorem dX9_init_19 : decode cX9_init 19 = .ok (.putfield 13, 3) := by decide +kernel
theorem dX9_init_22 : decode cX9_init 22 = .ok (.aload_n 0, 1) := by decide +kernel
theorem dX9_init_23 : decode cX9_init 23 = .ok (.iconst 2, 1) := by decide +kernel
theorem dX9_init_24 : decode cX9_init 24 = .ok (.newarray .boolean, 2) := by decide +kernel
theorem dX9_init_26 : decode cX9_init 26 = .ok (.putfield 16, 3) := by decide +kernel
theorem dX9_init_29 : decode cX9_init 29 = .ok (.aload_n 0, 1) := by decide +kernel
theorem dX9_init_30 : decode cX9_init 30 = .ok (.iconst 4, 1) := by decide +kernel
theorem dX9_init_31 : decode cX9_init 31 = .ok (.newarray .char, 2) := by decide +kernel
theorem dX9_init_33 : decode cX9_init 33 = .ok (.dup, 1) := by decide +kernel
theorem dX9_init_34 : decode cX9_init 34 = .ok (.iconst 0, 1) := by decide +kernel
theorem dX9_init_35 : decode cX9_init 35 = .ok (.bipush 104, 2) := by decide +kernel
theorem dX9_init_37 : decode cX9_init 37 = .ok (.castore, 1) := by decide +kernel
theorem dX9_init_38 : decode cX9_init 38 = .ok (.dup, 1) := by decide +kernel
theorem dX9_init_39 : decode cX9_init 39 = .ok (.iconst 1, 1) := by decide +kernel
theorem dX9_init_40 : decode cX9_init 40 = .ok (.bipush 116, 2) := by decide +kernel
theorem dX9_init_42 : decode cX9_init 42 = .ok (.castore, 1) := by decide +kernel
theorem dX9_init_43 : decode cX9_init 43 = .ok (.dup, 1) := by decide +kernel
theorem dX9_init_44 : decode cX9_init 44 = .ok (.iconst 2, 1) := by decide +kernel
theorem dX9_init_45 : decode cX9_init 45 = .ok (.bipush 116, 2) := by decide +kernel
theorem dX9_init_47 : decode cX9_init 47 = .ok (.castore, 1) := by decide +kernel
theorem dX9_init_48 : decode cX9_init 48 = .ok (.dup, 1) := by decide +kernel
theorem dX9_init_49 : decode cX9_init 49 = .ok (.iconst 3, 1) := by decide +kernel
theorem dX9_init_50 : decode cX9_init 50 = .ok (.bipush 112, 2) := by decide +kernel
theorem dX9_init_52 : decode cX9_init 52 = .ok (.castore, 1) := by decide +kernel
theorem dX9_init_53 : decode cX9_init 53 = .ok (.putfield 20, 3) := by decide +kernel
theorem dX9_init_56 : decode cX9_init 56 = .ok (.aload_n 0, 1) := by decide +kernel
theorem dX9_init_57 : decode cX9_init 57 = .ok (.iconst 3, 1) := by decide +kernel
theorem dX9_init_58 : decode cX9_init 58 = .ok (.newarray .char, 2) := by decide +kernel
theorem dX9_init_60 : decode cX9_init 60 = .ok (.dup, 1) := by decide +kernel
theorem dX9_init_61 : decode cX9_init 61 = .ok (.iconst 0, 1) := by decide +kernel
theorem dX9_init_62 : decode cX9_init 62 = .ok (.bipush 58, 2) := by decide +kernel
theorem dX9_init_64 : decode cX9_init 64 = .ok (.castore, 1) := by decide +kernel
theorem dX9_init_65 : decode cX9_init 65 = .ok (.dup, 1) := by decide +kernel
theorem dX9_init_66 : decode cX9_init 66 = .ok (.iconst 1, 1) := by decide +kernel
theorem dX9_init_67 : decode cX9_init 67 = .ok (.bipush 47, 2) := by decide +kernel
theorem dX9_init_69 : decode cX9_init 69 = .ok (.castore, 1) := by decide +kernel
theorem dX9_init_70 : decode cX9_init 70 = .ok (.dup, 1) := by decide +kernel
theorem dX9_init_71 : decode cX9_init 71 = .ok (.iconst 2, 1) := by decide +kernel
theorem dX9_init_72 : decode cX9_init 72 = .ok (.bipush 47, 2) := by decide +kernel
theorem dX9_init_74 : decode cX9_init 74 = .ok (.castore, 1) := by decide +kernel
theorem dX9_init_75 : decode cX9_init 75 = .ok (.putfield 24, 3) := by decide +kernel
theorem dX9_init_78 : decode cX9_init 78 = .ok (.aload_n 0, 1) := by decide +kernel
theorem dX9_init_79 : decode cX9_init 79 = .ok (.bipush 7, 2) := by decide +kernel
theorem dX9_init_81 : decode cX9_init 81 = .ok (.newarray .char, 2) := by decide +kernel
theorem dX9_init_83 : decode cX9_init 83 = .ok (.dup, 1) := by decide +kernel
theorem dX9_init_84 : decode cX9_init 84 = .ok (.iconst 0, 1) := by decide +kernel
theorem dX9_init_85 : decode cX9_init 85 = .ok (.bipush 101, 2) := by decide +kernel
theorem dX9_init_87 : decode cX9_init 87 = .ok (.castore, 1) := by decide +kernel
theorem dX9_init_88 : decode cX9_init 88 = .ok (.dup, 1) := by decide +kernel
theorem dX9_init_89 : decode cX9_init 89 = .ok (.iconst 1, 1) := by decide +kernel
theorem dX9_init_90 : decode cX9_init 90 = .ok (.bipush 120, 2) := by decide +kernel
theorem dX9_init_92 : decode cX9_init 92 = .ok (.castore, 1) := by decide +kernel
theorem dX9_init_93 : decode cX9_init 93 = .ok (.dup, 1) := by decide +kernel
theorem dX9_init_94 : decode cX9_init 94 = .ok (.iconst 2, 1) := by decide +kernel
theorem dX9_init_95 : decode cX9_init 95 = .ok (.bipush 112, 2) := by decide +kernel
theorem dX9_init_97 : decode cX9_init 97 = .ok (.castore, 1) := by decide +kernel
theorem dX9_init_98 : decode cX9_init 98 = .ok (.dup, 1) := by decide +kernel
theorem dX9_init_99 : decode cX9_init 99 = .ok (.iconst 3, 1) := by decide +kernel
theorem dX9_init_100 : decode cX9_init 100 = .ok (.bipush 105, 2) := by decide +kernel
theorem dX9_init_102 : decode cX9_init 102 = .ok (.castore, 1) := by decide +kernel
theorem dX9_init_103 : decode cX9_init 103 = .ok (.dup, 1) := by decide +kernel
theorem dX9_init_104 : decode cX9_init 104 = .ok (.iconst 4, 1) := by decide +kernel
theorem dX9_init_105 : decode cX9_init 105 = .ok (.bipush 114, 2) := by decide +kernel
theorem dX9_init_107 : decode cX9_init 107 = .ok (.castore, 1) := by decide +kernel
theorem dX9_init_108 : decode cX9_init 108 = .ok (.dup, 1) := by decide +kernel
theorem dX9_init_109 : decode cX9_init 109 = .ok (.iconst 5, 1) := by decide +kernel
theorem dX9_init_110 : decode cX9_init 110 = .ok (.bipush 101, 2) := by decide +kernel
theorem dX9_init_112 : decode cX9_init 112 = .ok (.castore, 1) := by decide +kernel
theorem dX9_init_113 : decode cX9_init 113 = .ok (.dup, 1) := by decide +kernel
theorem dX9_init_114 : decode cX9_init 114 = .ok (.bipush 6, 2) := by decide +kernel
theorem dX9_init_116 : decode cX9_init 116 = .ok (.bipush 115, 2) := by decide +kernel
theorem dX9_init_118 : decode cX9_init 118 = .ok (.castore, 1) := by decide +kernel
theorem dX9_init_119 : decode cX9_init 119 = .ok (.putfield 27, 3) := by decide +kernel
theorem dX9_init_122 : decode cX9_init 122 = .ok (.aload_n 0, 1) := by decide +kernel
theorem dX9_init_123 : decode cX9_init 123 = .ok (.bipush 7, 2) := by decide +kernel
theorem dX9_init_125 : decode cX9_init 125 = .ok (.newarray .char, 2) := by decide +kernel
theorem dX9_init_127 : decode cX9_init 127 = .ok (.dup, 1) := by decide +kernel
theorem dX9_init_128 : decode cX9_init 128 = .ok (.iconst 0, 1) := by decide +kernel
theorem dX9_init_129 : decode cX9_init 129 = .ok (.bipush 109, 2) := by decide +kernel
theorem dX9_init_131 : decode cX9_init 131 = .ok (.castore, 1) := by decide +kernel
theorem dX9_init_132 : decode cX9_init 132 = .ok (.dup, 1) := by decide +kernel
theorem dX9_init_133 : decode cX9_init 133 = .ok (.iconst 1, 1) := by decide +kernel
theorem dX9_init_134 : decode cX9_init 134 = .ok (.bipush 97, 2) := by decide +kernel
theorem dX9_init_136 : decode cX9_init 136 = .ok (.castore, 1) := by decide +kernel
theorem dX9_init_137 : decode cX9_init 137 = .ok (.dup, 1) := by decide +kernel
theorem dX9_init_138 : decode cX9_init 138 = .ok (.iconst 2, 1) := by decide +kernel
theorem dX9_init_139 : decode cX9_init 139 = .ok (.bipush 120, 2) := by decide +kernel
theorem dX9_init_141 : decode cX9_init 141 = .ok (.castore, 1) := by decide +kernel
theorem dX9_init_142 : decode cX9_init 142 = .ok (.dup, 1) := by decide +kernel
theorem dX9_init_143 : decode cX9_init 143 = .ok (.iconst 3, 1) := by decide +kernel
theorem dX9_init_144 : decode cX9_init 144 = .ok (.bipush 45, 2) := by decide +kernel
theorem dX9_init_146 : decode cX9_init 146 = .ok (.castore, 1) := by decide +kernel
theorem dX9_init_147 : decode cX9_init 147 = .ok (.dup, 1) := by decide +kernel
theorem dX9_init_148 : decode cX9_init 148 = .ok (.iconst 4, 1) := by decide +kernel
theorem dX9_init_149 : decode cX9_init 149 = .ok (.bipush 97, 2) := by decide +kernel
theorem dX9_init_151 : decode cX9_init 151 = .ok (.castore, 1) := by decide +kernel
theorem dX9_init_152 : decode cX9_init 152 = .ok (.dup, 1) := by decide +kernel
theorem dX9_init_153 : decode cX9_init 153 = .ok (.iconst 5, 1) := by decide +kernel
theorem dX9_init_154 : decode cX9_init 154 = .ok (.bipush 103, 2) := by decide +kernel
theorem dX9_init_156 : decode cX9_init 156 = .ok (.castore, 1) := by decide +kernel
theorem dX9_init_157 : decode cX9_init 157 = .ok (.dup, 1) := by decide +kernel
theorem dX9_init_158 : decode cX9_init 158 = .ok (.bipush 6, 2) := by decide +kernel
theorem dX9_init_160 : decode cX9_init 160 = .ok (.bipush 101, 2) := by decide +kernel
theorem dX9_init_162 : decode cX9_init 162 = .ok (.castore, 1) := by decide +kernel
theorem dX9_init_163 : decode cX9_init 163 = .ok (.putfield 30, 3) := by decide +kernel
theorem dX9_init_166 : decode cX9_init 166 = .ok (.aload_n 0, 1) := by decide +kernel
theorem dX9_init_167 : decode cX9_init 167 = .ok (.bipush 6, 2) := by decide +kernel
theorem dX9_init_169 : decode cX9_init 169 = .ok (.newarray .char, 2) := by decide +kernel
theorem dX9_init_171 : decode cX9_init 171 = .ok (.dup, 1) := by decide +kernel
theorem dX9_init_172 : decode cX9_init 172 = .ok (.iconst 0, 1) := by decide +kernel
theorem dX9_init_173 : decode cX9_init 173 = .ok (.bipush 100, 2) := by decide +kernel
theorem dX9_init_175 : decode cX9_init 175 = .ok (.castore, 1) := by decide +kernel
theorem dX9_init_176 : decode cX9_init 176 = .ok (.dup, 1) := by decide +kernel
theorem dX9_init_177 : decode cX9_init 177 = .ok (.iconst 1, 1) := by decide +kernel
theorem dX9_init_178 : decode cX9_init 178 = .ok (.bipush 111, 2) := by decide +kernel
theorem dX9_init_180 : decode cX9_init 180 = .ok (.castore, 1) := by decide +kernel
theorem dX9_init_181 : decode cX9_init 181 = .ok (.dup, 1) := by decide +kernel
theorem dX9_init_182 : decode cX9_init 182 = .ok (.iconst 2, 1) := by decide +kernel
theorem dX9_init_183 : decode cX9_init 183 = .ok (.bipush 109, 2) := by decide +kernel
theorem dX9_init_185 : decode cX9_init 185 = .ok (.castore, 1) := by decide +kernel
theorem dX9_init_186 : decode cX9_init 186 = .ok (.dup, 1) := by decide +kernel
theorem dX9_init_187 : decode cX9_init 187 = .ok (.iconst 3, 1) := by decide +kernel
theorem dX9_init_188 : decode cX9_init 188 = .ok (.bipush 97, 2) := by decide +kernel
theorem dX9_init_190 : decode cX9_init 190 = .ok (.castore, 1) := by decide +kernel
theorem dX9_init_191 : decode cX9_init 191 = .ok (.dup, 1) := by decide +kernel
theorem dX9_init_192 : decode cX9_init 192 = .ok (.iconst 4, 1) := by decide +kernel
theorem dX9_init_193 : decode cX9_init 193 = .ok (.bipush 105, 2) := by decide +kernel
theorem dX9_init_195 : decode cX9_init 195 = .ok (.castore, 1) := by decide +kernel
theorem dX9_init_196 : decode cX9_init 196 = .ok (.dup, 1) := by decide +kernel
theorem dX9_init_197 : decode cX9_init 197 = .ok (.iconst 5, 1) := by decide +kernel
theorem dX9_init_198 : decode cX9_init 198 = .ok (.bipush 110, 2) := by decide +kernel
theorem dX9_init_200 : decode cX9_init 200 = .ok (.castore, 1) := by decide +kernel
theorem dX9_init_201 : decode cX9_init 201 = .ok (.putfield 33, 3) := by decide +kernel
theorem dX9_init_204 : decode cX9_init 204 = .ok (.aload_n 0, 1) := by decide +kernel
theorem dX9_init_205 : decode cX9_init 205 = .ok (.iconst 4, 1) := by decide +kernel
theorem dX9_init_206 : decode cX9_init 206 = .ok (.newarray .char, 2) := by decide +kernel
theorem dX9_init_208 : decode cX9_init 208 = .ok (.dup, 1) := by decide +kernel
theorem dX9_init_209 : decode cX9_init 209 = .ok (.iconst 0, 1) := by decide +kernel
theorem dX9_init_210 : decode cX9_init 210 = .ok (.bipush 112, 2) := by decide +kernel
theorem dX9_init_212 : decode cX9_init 212 = .ok (.castore, 1) := by decide +kernel
theorem dX9_init_213 : decode cX9_init 213 = .ok (.dup, 1) := by decide +kernel
theorem dX9_init_214 : decode cX9_init 214 = .ok (.iconst 1, 1) := by decide +kernel
theorem dX9_init_215 : decode cX9_init 215 = .ok (.bipush 97, 2) := by decide +kernel
theorem dX9_init_217 : decode cX9_init 217 = .ok (.castore, 1) := by decide +kernel
theorem dX9_init_218 : decode cX9_init 218 = .ok (.dup, 1) := by decide +kernel
theorem dX9_init_219 : decode cX9_init 219 = .ok (.iconst 2, 1) := by decide +kernel
theorem dX9_init_220 : decode cX9_init 220 = .ok (.bipush 116, 2) := by decide +kernel
theorem dX9_init_222 : decode cX9_init 222 = .ok (.castore, 1) := by decide +kernel
theorem dX9_init_223 : decode cX9_init 223 = .ok (.dup, 1) := by decide +kernel
theorem dX9_init_224 : decode cX9_init 224 = .ok (.iconst 3, 1) := by decide +kernel
theorem dX9_init_225 : decode cX9_init 225 = .ok (.bipush 104, 2) := by decide +kernel
theorem dX9_init_227 : decode cX9_init 227 = .ok (.castore, 1) := by decide +kernel
theorem dX9_init_228 : decode cX9_init 228 = .ok (.putfield 36, 3) := by decide +kernel
theorem dX9_init_231 : decode cX9_init 231 = .ok (.aload_n 0, 1) := by decide +kernel
theorem dX9_init_232 : decode cX9_init 232 = .ok (.bipush 6, 2) := by decide +kernel
theorem dX9_init_234 : decode cX9_init 234 = .ok (.newarray .char, 2) := by decide +kernel
theorem dX9_init_236 : decode cX9_init 236 = .ok (.dup, 1) := by decide +kernel
theorem dX9_init_237 : decode cX9_init 237 = .ok (.iconst 0, 1) := by decide +kernel
theorem dX9_init_238 : decode cX9_init 238 = .ok (.bipush 115, 2) := by decide +kernel
theorem dX9_init_240 : decode cX9_init 240 = .ok (.castore, 1) := by decide +kernel
theorem dX9_init_241 : decode cX9_init 241 = .ok (.dup, 1) := by decide +kernel
theorem dX9_init_242 : decode cX9_init 242 = .ok (.iconst 1, 1) := by decide +kernel
theorem dX9_init_243 : decode cX9_init 243 = .ok (.bipush 101, 2) := by decide +kernel
theorem dX9_init_245 : decode cX9_init 245 = .ok (.castore, 1) := by decide +kernel
theorem dX9_init_246 : decode cX9_init 246 = .ok (.dup, 1) := by decide +kernel
theorem dX9_init_247 : decode cX9_init 247 = .ok (.iconst 2, 1) := by decide +kernel
theorem dX9_init_248 : decode cX9_init 248 = .ok (.bipush 99, 2) := by decide +kernel
theorem dX9_init_250 : decode cX9_init 250 = .ok (.castore, 1) := by decide +kernel
theorem dX9_init_251 : decode cX9_init 251 = .ok (.dup, 1) := by decide +kernel
theorem dX9_init_252 : decode cX9_init 252 = .ok (.iconst 3, 1) := by decide +kernel
theorem dX9_init_253 : decode cX9_init 253 = .ok (.bipush 117, 2) := by decide +kernel
theorem dX9_init_255 : decode cX9_init 255 = .ok (.castore, 1) := by decide +kernel
theorem dX9_init_256 : decode cX9_init 256 = .ok (.dup, 1) := by decide +kernel
theorem dX9_init_257 : decode cX9_init 257 = .ok (.iconst 4, 1) := by decide +kernel
theorem dX9_init_258 : decode cX9_init 258 = .ok (.bipush 114, 2) := by decide +kernel
theorem dX9_init_260 : decode cX9_init 260 = .ok (.castore, 1) := by decide +kernel
theorem dX9_init_261 : decode cX9_init 261 = .ok (.dup, 1) := by decide +kernel
theorem dX9_init_262 : decode cX9_init 262 = .ok (.iconst 5, 1) := by decide +kernel
theorem dX9_init_263 : decode cX9_init 263 = .ok (.bipush 101, 2) := by decide +kernel
theorem dX9_init_265 : decode cX9_init 265 = .ok (.castore, 1) := by decide +kernel
theorem dX9_init_266 : decode cX9_init 266 = .ok (.putfield 39, 3) := by decide +kernel
theorem dX9_init_269 : decode cX9_init 269 = .ok (.aload_n 0, 1) := by decide +kernel
theorem dX9_init_270 : decode cX9_init 270 = .ok (.bipush 8, 2) := by decide +kernel
theorem dX9_init_272 : decode cX9_init 272 = .ok (.newarray .char, 2) := by decide +kernel
theorem dX9_init_274 : decode cX9_init 274 = .ok (.dup, 1) := by decide +kernel
theorem dX9_init_275 : decode cX9_init 275 = .ok (.iconst 0, 1) := by decide +kernel
theorem dX9_init_276 : decode cX9_init 276 = .ok (.bipush 104, 2) := by decide +kernel
theorem dX9_init_278 : decode cX9_init 278 = .ok (.castore, 1) := by decide +kernel
theorem dX9_init_279 : decode cX9_init 279 = .ok (.dup, 1) := by decide +kernel
theorem dX9_init_280 : decode cX9_init 280 = .ok (.iconst 1, 1) := by decide +kernel
theorem dX9_init_281 : decode cX9_init 281 = .ok (.bipush 116, 2) := by decide +kernel
theorem dX9_init_283 : decode cX9_init 283 = .ok (.castore, 1) := by decide +kernel
theorem dX9_init_284 : decode cX9_init 284 = .ok (.dup, 1) := by decide +kernel
theorem dX9_init_285 : decode cX9_init 285 = .ok (.iconst 2, 1) := by decide +kernel
theorem dX9_init_286 : decode cX9_init 286 = .ok (.bipush 116, 2) := by decide +kernel
theorem dX9_init_288 : decode cX9_init 288 = .ok (.castore, 1) := by decide +kernel
theorem dX9_init_289 : decode cX9_init 289 = .ok (.dup, 1) := by decide +kernel
theorem dX9_init_290 : decode cX9_init 290 = .ok (.iconst 3, 1) := by decide +kernel
theorem dX9_init_291 : decode cX9_init 291 = .ok (.bipush 112, 2) := by decide +kernel
theorem dX9_init_293 : decode cX9_init 293 = .ok (.castore, 1) := by decide +kernel
theorem dX9_init_294 : decode cX9_init 294 = .ok (.dup, 1) := by decide +kernel
theorem dX9_init_295 : decode cX9_init 295 = .ok (.iconst 4, 1) := by decide +kernel
theorem dX9_init_296 : decode cX9_init 296 = .ok (.bipush 111, 2) := by decide +kernel
theorem dX9_init_298 : decode cX9_init 298 = .ok (.castore, 1) := by decide +kernel
theorem dX9_init_299 : decode cX9_init 299 = .ok (.dup, 1) := by decide +kernel
theorem dX9_init_300 : decode cX9_init 300 = .ok (.iconst 5, 1) := by decide +kernel
theorem dX9_init_301 : decode cX9_init 301 = .ok (.bipush 110, 2) := by decide +kernel
theorem dX9_init_303 : decode cX9_init 303 = .ok (.castore, 1) := by decide +kernel
theorem dX9_init_304 : decode cX9_init 304 = .ok (.dup, 1) := by decide +kernel
theorem dX9_init_305 : decode cX9_init 305 = .ok (.bipush 6, 2) := by decide +kernel
theorem dX9_init_307 : decode cX9_init 307 = .ok (.bipush 108, 2) := by decide +kernel
theorem dX9_init_309 : decode cX9_init 309 = .ok (.castore, 1) := by decide +kernel
theorem dX9_init_310 : decode cX9_init 310 = .ok (.dup, 1) := by decide +kernel
theorem dX9_init_311 : decode cX9_init 311 = .ok (.bipush 7, 2) := by decide +kernel
theorem dX9_init_313 : decode cX9_init 313 = .ok (.bipush 121, 2) := by decide +kernel
theorem dX9_init_315 : decode cX9_init 315 = .ok (.castore, 1) := by decide +kernel
theorem dX9_init_316 : decode cX9_init 316 = .ok (.putfield 42, 3) := by decide +kernel
theorem dX9_init_319 : decode cX9_init 319 = .ok (.aload_n 0, 1) := by decide +kernel
theorem dX9_init_320 : decode cX9_init 320 = .ok (.bipush 8, 2) := by decide +kernel
theorem dX9_init_322 : decode cX9_init 322 = .ok (.newarray .char, 2) := by decide +kernel
theorem dX9_init_324 : decode cX9_init 324 = .ok (.dup, 1) := by decide +kernel
theorem dX9_init_325 : decode cX9_init 325 = .ok (.iconst 0, 1) := by decide +kernel
theorem dX9_init_326 : decode cX9_init 326 = .ok (.bipush 115, 2) := by decide +kernel
theorem dX9_init_328 : decode cX9_init 328 = .ok (.castore, 1) := by decide +kernel
theorem dX9_init_329 : decode cX9_init 329 = .ok (.dup, 1) := by decide +kernel
theorem dX9_init_330 : decode cX9_init 330 = .ok (.iconst 1, 1) := by decide +kernel
theorem dX9_init_331 : decode cX9_init 331 = .ok (.bipush 97, 2) := by decide +kernel
theorem dX9_init_333 : decode cX9_init 333 = .ok (.castore, 1) := by decide +kernel
theorem dX9_init_334 : decode cX9_init 334 = .ok (.dup, 1) := by decide +kernel
theorem dX9_init_335 : decode cX9_init 335 = .ok (.iconst 2, 1) := by decide +kernel
theorem dX9_init_336 : decode cX9_init 336 = .ok (.bipush 109, 2) := by decide +kernel
theorem dX9_init_338 : decode cX9_init 338 = .ok (.castore, 1) := by decide +kernel
theorem dX9_init_339 : decode cX9_init 339 = .ok (.dup, 1) := by decide +kernel
theorem dX9_init_340 : decode cX9_init 340 = .ok (.iconst 3, 1) := by decide +kernel
theorem dX9_init_341 : decode cX9_init 341 = .ok (.bipush 101, 2) := by decide +kernel
theorem dX9_init_343 : decode cX9_init 343 = .ok (.castore, 1) := by decide +kernel
theorem dX9_init_344 : decode cX9_init 344 = .ok (.dup, 1) := by decide +kernel
theorem dX9_init_345 : decode cX9_init 345 = .ok (.iconst 4, 1) := by decide +kernel
theorem dX9_init_346 : decode cX9_init 346 = .ok (.bipush 115, 2) := by decide +kernel
theorem dX9_init_348 : decode cX9_init 348 = .ok (.castore, 1) := by decide +kernel
theorem dX9_init_349 : decode cX9_init 349 = .ok (.dup, 1) := by decide +kernel
theorem dX9_init_350 : decode cX9_init 350 = .ok (.iconst 5, 1) := by decide +kernel
theorem dX9_init_351 : decode cX9_init 351 = .ok (.bipush 105, 2) := by decide +kernel
theorem dX9_init_353 : decode cX9_init 353 = .ok (.castore, 1) := by decide +kernel
theorem dX9_init_354 : decode cX9_init 354 = .ok (.dup, 1) := by decide +kernel
theorem dX9_init_355 : decode cX9_init 355 = .ok (.bipush 6, 2) := by decide +kernel
theorem dX9_init_357 : decode cX9_init 357 = .ok (.bipush 116, 2) := by decide +kernel
theorem dX9_init_359 : decode cX9_init 359 = .ok (.castore, 1) := by decide +kernel
theorem dX9_init_360 : decode cX9_init 360 = .ok (.dup, 1) := by decide +kernel
theorem dX9_init_361 : decode cX9_init 361 = .ok (.bipush 7, 2) := by decide +kernel
theorem dX9_init_363 : decode cX9_init 363 = .ok (.bipush 101, 2) := by decide +kernel
theorem dX9_init_365 : decode cX9_init 365 = .ok (.castore, 1) := by decide +kernel
theorem dX9_init_366 : decode cX9_init 366 = .ok (.putfield 45, 3) := by decide +kernel
theorem dX9_init_369 : decode cX9_init 369 = .ok (.aload_n 0, 1) := by decide +kernel
theorem dX9_init_370 : decode cX9_init 370 = .ok (.bipush 8, 2) := by decide +kernel
theorem dX9_init_372 : decode cX9_init 372 = .ok (.newarray .char, 2) := by decide +kernel
theorem dX9_init_374 : decode cX9_init 374 = .ok (.dup, 1) := by decide +kernel
theorem dX9_init_375 : decode cX9_init 375 = .ok (.iconst 0, 1) := by decide +kernel
theorem dX9_init_376 : decode cX9_init 376 = .ok (.bipush 112, 2) := by decide +kernel
theorem dX9_init_378 : decode cX9_init 378 = .ok (.castore, 1) := by decide +kernel
theorem dX9_init_379 : decode cX9_init 379 = .ok (.dup, 1) := by decide +kernel
theorem dX9_init_380 : decode cX9_init 380 = .ok (.iconst 1, 1) := by decide +kernel
theorem dX9_init_381 : decode cX9_init 381 = .ok (.bipush 114, 2) := by decide +kernel
theorem dX9_init_383 : decode cX9_init 383 = .ok (.castore, 1) := by decide +kernel
theorem dX9_init_384 : decode cX9_init 384 = .ok (.dup, 1) := by decide +kernel
theorem dX9_init_385 : decode cX9_init 385 = .ok (.iconst 2, 1) := by decide +kernel
theorem dX9_init_386 : decode cX9_init 386 = .ok (.bipush 105, 2) := by decide +kernel
theorem dX9_init_388 : decode cX9_init 388 = .ok (.castore, 1) := by decide +kernel
theorem dX9_init_389 : decode cX9_init 389 = .ok (.dup, 1) := by decide +kernel
theorem dX9_init_390 : decode cX9_init 390 = .ok (.iconst 3, 1) := by decide +kernel
theorem dX9_init_391 : decode cX9_init 391 = .ok (.bipush 111, 2) := by decide +kernel
theorem dX9_init_393 : decode cX9_init 393 = .ok (.castore, 1) := by decide +kernel
theorem dX9_init_394 : decode cX9_init 394 = .ok (.dup, 1) := by decide +kernel
theorem dX9_init_395 : decode cX9_init 395 = .ok (.iconst 4, 1) := by decide +kernel
theorem dX9_init_396 : decode cX9_init 396 = .ok (.bipush 114, 2) := by decide +kernel
theorem dX9_init_398 : decode cX9_init 398 = .ok (.castore, 1) := by decide +kernel
theorem dX9_init_399 : decode cX9_init 399 = .ok (.dup, 1) := by decide +kernel
theorem dX9_init_400 : decode cX9_init 400 = .ok (.iconst 5, 1) := by decide +kernel
theorem dX9_init_401 : decode cX9_init 401 = .ok (.bipush 105, 2) := by decide +kernel
theorem dX9_init_403 : decode cX9_init 403 = .ok (.castore, 1) := by decide +kernel
theorem dX9_init_404 : decode cX9_init 404 = .ok (.dup, 1) := by decide +kernel
theorem dX9_init_405 : decode cX9_init 405 = .ok (.bipush 6, 2) := by decide +kernel
theorem dX9_init_407 : decode cX9_init 407 = .ok (.bipush 116, 2) := by decide +kernel
theorem dX9_init_409 : decode cX9_init 409 = .ok (.castore, 1) := by decide +kernel
theorem dX9_init_410 : decode cX9_init 410 = .ok (.dup, 1) := by decide +kernel
theorem dX9_init_411 : decode cX9_init 411 = .ok (.bipush 7, 2) := by decide +kernel
theorem dX9_init_413 : decode cX9_init 413 = .ok (.bipush 121, 2) := by decide +kernel
theorem dX9_init_415 : decode cX9_init 415 = .ok (.castore, 1) := by decide +kernel
theorem dX9_init_416 : decode cX9_init 416 = .ok (.putfield 48, 3) := by decide +kernel
theorem dX9_init_419 : decode cX9_init 419 = .ok (.aload_n 0, 1) := by decide +kernel
theorem dX9_init_420 : decode cX9_init 420 = .ok (.iconst 4, 1) := by decide +kernel
theorem dX9_init_421 : decode cX9_init 421 = .ok (.newarray .char, 2) := by decide +kernel
theorem dX9_init_423 : decode cX9_init 423 = .ok (.dup, 1) := by decide +kernel
theorem dX9_init_424 : decode cX9_init 424 = .ok (.iconst 0, 1) := by decide +kernel
theorem dX9_init_425 : decode cX9_init 425 = .ok (.bipush 110, 2) := by decide +kernel
theorem dX9_init_427 : decode cX9_init 427 = .ok (.castore, 1) := by decide +kernel
theorem dX9_init_428 : decode cX9_init 428 = .ok (.dup, 1) := by decide +kernel
theorem dX9_init_429 : decode cX9_init 429 = .ok (.iconst 1, 1) := by decide +kernel
theorem dX9_init_430 : decode cX9_init 430 = .ok (.bipush 111, 2) := by decide +kernel
theorem dX9_init_432 : decode cX9_init 432 = .ok (.castore, 1) := by decide +kernel
theorem dX9_init_433 : decode cX9_init 433 = .ok (.dup, 1) := by decide +kernel
theorem dX9_init_434 : decode cX9_init 434 = .ok (.iconst 2, 1) := by decide +kernel
theorem dX9_init_435 : decode cX9_init 435 = .ok (.bipush 110, 2) := by decide +kernel
theorem dX9_init_437 : decode cX9_init 437 = .ok (.castore, 1) := by decide +kernel
theorem dX9_init_438 : decode cX9_init 438 = .ok (.dup, 1) := by decide +kernel
theorem dX9_init_439 : decode cX9_init 439 = .ok (.iconst 3, 1) := by decide +kernel
theorem dX9_init_440 : decode cX9_init 440 = .ok (.bipush 101, 2) := by decide +kernel
theorem dX9_init_442 : decode cX9_init 442 = .ok (.castore, 1) := by decide +kernel
theorem dX9_init_443 : decode cX9_init 443 = .ok (.putfield 51, 3) := by decide +kernel
theorem dX9_init_446 : decode cX9_init 446 = .ok (.aload_n 0, 1) := by decide +kernel
theorem dX9_init_447 : decode cX9_init 447 = .ok (.iconst 3, 1) := by decide +kernel
theorem dX9_init_448 : decode cX9_init 448 = .ok (.newarray .char, 2) := by decide +kernel
theorem dX9_init_450 : decode cX9_init 450 = .ok (.dup, 1) := by decide +kernel
theorem dX9_init_451 : decode cX9_init 451 = .ok (.iconst 0, 1) := by decide +kernel
theorem dX9_init_452 : decode cX9_init 452 = .ok (.bipush 108, 2) := by decide +kernel
theorem dX9_init_454 : decode cX9_init 454 = .ok (.castore, 1) := by decide +kernel
theorem dX9_init_455 : decode cX9_init 455 = .ok (.dup, 1) := by decide +kernel
theorem dX9_init_456 : decode cX9_init 456 = .ok (.iconst 1, 1) := by decide +kernel
theorem dX9_init_457 : decode cX9_init 457 = .ok (.bipush 97, 2) := by decide +kernel
theorem dX9_init_459 : decode cX9_init 459 = .ok (.castore, 1) := by decide +kernel
theorem dX9_init_460 : decode cX9_init 460 = .ok (.dup, 1) := by decide +kernel
theorem dX9_init_461 : decode cX9_init 461 = .ok (.iconst 2, 1) := by decide +kernel
theorem dX9_init_462 : decode cX9_init 462 = .ok (.bipush 120, 2) := by decide +kernel
theorem dX9_init_464 : decode cX9_init 464 = .ok (.castore, 1) := by decide +kernel
theorem dX9_init_465 : decode cX9_init 465 = .ok (.putfield 54, 3) := by decide +kernel
theorem dX9_init_468 : decode cX9_init 468 = .ok (.aload_n 0, 1) := by decide +kernel
theorem dX9_init_469 : decode cX9_init 469 = .ok (.bipush 6, 2) := by decide +kernel
theorem dX9_init_471 : decode cX9_init 471 = .ok (.newarray .char, 2) := by decide +kernel
theorem dX9_init_473 : decode cX9_init 473 = .ok (.dup, 1) := by decide +kernel
theorem dX9_init_474 : decode cX9_init 474 = .ok (.iconst 0, 1) := by decide +kernel
theorem dX9_init_475 : decode cX9_init 475 = .ok (.bipush 115, 2) := by decide +kernel
theorem dX9_init_477 : decode cX9_init 477 = .ok (.castore, 1) := by decide +kernel
theorem dX9_init_478 : decode cX9_init 478 = .ok (.dup, 1) := by decide +kernel
theorem dX9_init_479 : decode cX9_init 479 = .ok (.iconst 1, 1) := by decide +kernel
theorem dX9_init_480 : decode cX9_init 480 = .ok (.bipush 116, 2) := by decide +kernel
theorem dX9_init_482 : decode cX9_init 482 = .ok (.castore, 1) := by decide +kernel
theorem dX9_init_483 : decode cX9_init 483 = .ok (.dup, 1) := by decide +kernel
theorem dX9_init_484 : decode cX9_init 484 = .ok (.iconst 2, 1) := by decide +kernel
theorem dX9_init_485 : decode cX9_init 485 = .ok (.bipush 114, 2) := by decide +kernel
theorem dX9_init_487 : decode cX9_init 487 = .ok (.castore, 1) := by decide +kernel
theorem dX9_init_488 : decode cX9_init 488 = .ok (.dup, 1) := by decide +kernel
theorem dX9_init_489 : decode cX9_init 489 = .ok (.iconst 3, 1) := by decide +kernel
theorem dX9_init_490 : decode cX9_init 490 = .ok (.bipush 105, 2) := by decide +kernel
theorem dX9_init_492 : decode cX9_init 492 = .ok (.castore, 1) := by decide +kernel
theorem dX9_init_493 : decode cX9_init 493 = .ok (.dup, 1) := by decide +kernel
theorem dX9_init_494 : decode cX9_init 494 = .ok (.iconst 4, 1) := by decide +kernel
theorem dX9_init_495 : decode cX9_init 495 = .ok (.bipush 99, 2) := by decide +kernel
theorem dX9_init_497 : decode cX9_init 497 = .ok (.castore, 1) := by decide +kernel
theorem dX9_init_498 : decode cX9_init 498 = .ok (.dup, 1) := by decide +kernel
theorem dX9_init_499 : decode cX9_init 499 = .ok (.iconst 5, 1) := by decide +kernel
theorem dX9_init_500 : decode cX9_init 500 = .ok (.bipush 116, 2) := by decide +kernel
theorem dX9_init_502 : decode cX9_init 502 = .ok (.castore, 1) := by decide +kernel
theorem dX9_init_503 : decode cX9_init 503 = .ok (.putfield 57, 3) := by decide +kernel
theorem dX9_init_506 : decode cX9_init 506 = .ok (.aload_n 0, 1) := by decide +kernel
theorem dX9_init_507 : decode cX9_init 507 = .ok (.iconst 3, 1) := by decide +kernel
theorem dX9_init_508 : decode cX9_init 508 = .ok (.newarray .char, 2) := by decide +kernel
theorem dX9_init_510 : decode cX9_init 510 = .ok (.dup, 1) := by decide +kernel
theorem dX9_init_511 : decode cX9_init 511 = .ok (.iconst 0, 1) := by decide +kernel
theorem dX9_init_512 : decode cX9_init 512 = .ok (.bipush 108, 2) := by decide +kernel
theorem dX9_init_514 : decode cX9_init 514 = .ok (.castore, 1) := by decide +kernel
theorem dX9_init_515 : decode cX9_init 515 = .ok (.dup, 1) := by decide +kernel
theorem dX9_init_516 : decode cX9_init 516 = .ok (.iconst 1, 1) := by decide +kernel
theorem dX9_init_517 : decode cX9_init 517 = .ok (.bipush 111, 2) := by decide +kernel
theorem dX9_init_519 : decode cX9_init 519 = .ok (.castore, 1) := by decide +kernel
theorem dX9_init_520 : decode cX9_init 520 = .ok (.dup, 1) := by decide +kernel
theorem dX9_init_521 : decode cX9_init 521 = .ok (.iconst 2, 1) := by decide +kernel
theorem dX9_init_522 : decode cX9_init 522 = .ok (.bipush 119, 2) := by decide +kernel
theorem dX9_init_524 : decode cX9_init 524 = .ok (.castore, 1) := by decide +kernel
theorem dX9_init_525 : decode cX9_init 525 = .ok (.putfield 60, 3) := by decide +kernel
theorem dX9_init_528 : decode cX9_init 528 = .ok (.aload_n 0, 1) := by decide +kernel
theorem dX9_init_529 : decode cX9_init 529 = .ok (.bipush 6, 2) := by decide +kernel
theorem dX9_init_531 : decode cX9_init 531 = .ok (.newarray .char, 2) := by decide +kernel
theorem dX9_init_533 : decode cX9_init 533 = .ok (.dup, 1) := by decide +kernel
theorem dX9_init_534 : decode cX9_init 534 = .ok (.iconst 0, 1) := by decide +kernel
theorem dX9_init_535 : decode cX9_init 535 = .ok (.bipush 109, 2) := by decide +kernel
theorem dX9_init_537 : decode cX9_init 537 = .ok (.castore, 1) := by decide +kernel
theorem dX9_init_538 : decode cX9_init 538 = .ok (.dup, 1) := by decide +kernel
theorem dX9_init_539 : decode cX9_init 539 = .ok (.iconst 1, 1) := by decide +kernel
theorem dX9_init_540 : decode cX9_init 540 = .ok (.bipush 101, 2) := by decide +kernel
theorem dX9_init_542 : decode cX9_init 542 = .ok (.castore, 1) := by decide +kernel
theorem dX9_init_543 : decode cX9_init 543 = .ok (.dup, 1) := by decide +kernel
theorem dX9_init_544 : decode cX9_init 544 = .ok (.iconst 2, 1) := by decide +kernel
theorem dX9_init_545 : decode cX9_init 545 = .ok (.bipush 100, 2) := by decide +kernel
theorem dX9_init_547 : decode cX9_init 547 = .ok (.castore, 1) := by decide +kernel
theorem dX9_init_548 : decode cX9_init 548 = .ok (.dup, 1) := by decide +kernel
theorem dX9_init_549 : decode cX9_init 549 = .ok (.iconst 3, 1) := by decide +kernel
theorem dX9_init_550 : decode cX9_init 550 = .ok (.bipush 105, 2) := by decide +kernel
theorem dX9_init_552 : decode cX9_init 552 = .ok (.castore, 1) := by decide +kernel
theorem dX9_init_553 : decode cX9_init 553 = .ok (.dup, 1) := by decide +kernel
theorem dX9_init_554 : decode cX9_init 554 = .ok (.iconst 4, 1) := by decide +kernel
theorem dX9_init_555 : decode cX9_init 555 = .ok (.bipush 117, 2) := by decide +kernel
theorem dX9_init_557 : decode cX9_init 557 = .ok (.castore, 1) := by decide +kernel
theorem dX9_init_558 : decode cX9_init 558 = .ok (.dup, 1) := by decide +kernel
theorem dX9_init_559 : decode cX9_init 559 = .ok (.iconst 5, 1) := by decide +kernel
theorem dX9_init_560 : decode cX9_init 560 = .ok (.bipush 109, 2) := by decide +kernel
theorem dX9_init_562 : decode cX9_init 562 = .ok (.castore, 1) := by decide +kernel
theorem dX9_init_563 : decode cX9_init 563 = .ok (.putfield 63, 3) := by decide +kernel
theorem dX9_init_566 : decode cX9_init 566 = .ok (.aload_n 0, 1) := by decide +kernel
theorem dX9_init_567 : decode cX9_init 567 = .ok (.iconst 4, 1) := by decide +kernel
theorem dX9_init_568 : decode cX9_init 568 = .ok (.newarray .char, 2) := by decide +kernel
theorem dX9_init_570 : decode cX9_init 570 = .ok (.dup, 1) := by decide +kernel
theorem dX9_init_571 : decode cX9_init 571 = .ok (.iconst 0, 1) := by decide +kernel
theorem dX9_init_572 : decode cX9_init 572 = .ok (.bipush 104, 2) := by decide +kernel
theorem dX9_init_574 : decode cX9_init 574 = .ok (.castore, 1) := by decide +kernel
theorem dX9_init_575 : decode cX9_init 575 = .ok (.dup, 1) := by decide +kernel
theorem dX9_init_576 : decode cX9_init 576 = .ok (.iconst 1, 1) := by decide +kernel
theorem dX9_init_577 : decode cX9_init 577 = .ok (.bipush 105, 2) := by decide +kernel
theorem dX9_init_579 : decode cX9_init 579 = .ok (.castore, 1) := by decide +kernel
theorem dX9_init_580 : decode cX9_init 580 = .ok (.dup, 1) := by decide +kernel
theorem dX9_init_581 : decode cX9_init 581 = .ok (.iconst 2, 1) := by decide +kernel
theorem dX9_init_582 : decode cX9_init 582 = .ok (.bipush 103, 2) := by decide +kernel
theorem dX9_init_584 : decode cX9_init 584 = .ok (.castore, 1) := by decide +kernel
theorem dX9_init_585 : decode cX9_init 585 = .ok (.dup, 1) := by decide +kernel
theorem dX9_init_586 : decode cX9_init 586 = .ok (.iconst 3, 1) := by decide +kernel
theorem dX9_init_587 : decode cX9_init 587 = .ok (.bipush 104, 2) := by decide +kernel
theorem dX9_init_589 : decode cX9_init 589 = .ok (.castore, 1) := by decide +kernel
theorem dX9_init_590 : decode cX9_init 590 = .ok (.putfield 66, 3) := by decide +kernel
theorem dX9_init_593 : decode cX9_init 593 = .ok (.aload_n 0, 1) := by decide +kernel
theorem dX9_init_594 : decode cX9_init 594 = .ok (.bipush 9, 2) := by decide +kernel
theorem dX9_init_596 : decode cX9_init 596 = .ok (.newarray .char, 2) := by decide +kernel
theorem dX9_init_598 : decode cX9_init 598 = .ok (.dup, 1) := by decide +kernel
theorem dX9_init_599 : decode cX9_init 599 = .ok (.iconst 0, 1) := by decide +kernel
theorem dX9_init_600 : decode cX9_init 600 = .ok (.bipush 95, 2) := by decide +kernel
theorem dX9_init_602 : decode cX9_init 602 = .ok (.castore, 1) := by decide +kernel
theorem dX9_init_603 : decode cX9_init 603 = .ok (.dup, 1) := by decide +kernel
theorem dX9_init_604 : decode cX9_init 604 = .ok (.iconst 1, 1) := by decide +kernel
theorem dX9_init_605 : decode cX9_init 605 = .ok (.bipush 95, 2) := by decide +kernel
theorem dX9_init_607 : decode cX9_init 607 = .ok (.castore, 1) := by decide +kernel
theorem dX9_init_608 : decode cX9_init 608 = .ok (.dup, 1) := by decide +kernel
theorem dX9_init_609 : decode cX9_init 609 = .ok (.iconst 2, 1) := by decide +kernel
theorem dX9_init_610 : decode cX9_init 610 = .ok (.bipush 83, 2) := by decide +kernel
theorem dX9_init_612 : decode cX9_init 612 = .ok (.castore, 1) := by decide +kernel
theorem dX9_init_613 : decode cX9_init 613 = .ok (.dup, 1) := by decide +kernel
theorem dX9_init_614 : decode cX9_init 614 = .ok (.iconst 3, 1) := by decide +kernel
theorem dX9_init_615 : decode cX9_init 615 = .ok (.bipush 101, 2) := by decide +kernel
theorem dX9_init_617 : decode cX9_init 617 = .ok (.castore, 1) := by decide +kernel
theorem dX9_init_618 : decode cX9_init 618 = .ok (.dup, 1) := by decide +kernel
theorem dX9_init_619 : decode cX9_init 619 = .ok (.iconst 4, 1) := by decide +kernel
theorem dX9_init_620 : decode cX9_init 620 = .ok (.bipush 99, 2) := by decide +kernel
theorem dX9_init_622 : decode cX9_init 622 = .ok (.castore, 1) := by decide +kernel
theorem dX9_init_623 : decode cX9_init 623 = .ok (.dup, 1) := by decide +kernel
theorem dX9_init_624 : decode cX9_init 624 = .ok (.iconst 5, 1) := by decide +kernel
theorem dX9_init_625 : decode cX9_init 625 = .ok (.bipush 117, 2) := by decide +kernel
theorem dX9_init_627 : decode cX9_init 627 = .ok (.castore, 1) := by decide +kernel
theorem dX9_init_628 : decode cX9_init 628 = .ok (.dup, 1) := by decide +kernel
theorem dX9_init_629 : decode cX9_init 629 = .ok (.bipush 6, 2) := by decide +kernel
theorem dX9_init_631 : decode cX9_init 631 = .ok (.bipush 114, 2) := by decide +kernel
theorem dX9_init_633 : decode cX9_init 633 = .ok (.castore, 1) := by decide +kernel
theorem dX9_init_634 : decode cX9_init 634 = .ok (.dup, 1) := by decide +kernel
theorem dX9_init_635 : decode cX9_init 635 = .ok (.bipush 7, 2) := by decide +kernel
theorem dX9_init_637 : decode cX9_init 637 = .ok (.bipush 101, 2) := by decide +kernel
theorem dX9_init_639 : decode cX9_init 639 = .ok (.castore, 1) := by decide +kernel
theorem dX9_init_640 : decode cX9_init 640 = .ok (.dup, 1) := by decide +kernel
theorem dX9_init_641 : decode cX9_init 641 = .ok (.bipush 8, 2) := by decide +kernel
theorem dX9_init_643 : decode cX9_init 643 = .ok (.bipush 45, 2) := by decide +kernel
theorem dX9_init_645 : decode cX9_init 645 = .ok (.castore, 1) := by decide +kernel
theorem dX9_init_646 : decode cX9_init 646 = .ok (.putfield 69, 3) := by decide +kernel
theorem dX9_init_649 : decode cX9_init 649 = .ok (.aload_n 0, 1) := by decide +kernel
theorem dX9_init_650 : decode cX9_init 650 = .ok (.bipush 7, 2) := by decide +kernel
theorem dX9_init_652 : decode cX9_init 652 = .ok (.newarray .char, 2) := by decide +kernel
theorem dX9_init_654 : decode cX9_init 654 = .ok (.dup, 1) := by decide +kernel
theorem dX9_init_655 : decode cX9_init 655 = .ok (.iconst 0, 1) := by decide +kernel
theorem dX9_init_656 : decode cX9_init 656 = .ok (.bipush 95, 2) := by decide +kernel
theorem dX9_init_658 : decode cX9_init 658 = .ok (.castore, 1) := by decide +kernel
theorem dX9_init_659 : decode cX9_init 659 = .ok (.dup, 1) := by decide +kernel
theorem dX9_init_660 : decode cX9_init 660 = .ok (.iconst 1, 1) := by decide +kernel
theorem dX9_init_661 : decode cX9_init 661 = .ok (.bipush 95, 2) := by decide +kernel
theorem dX9_init_663 : decode cX9_init 663 = .ok (.castore, 1) := by decide +kernel
theorem dX9_init_664 : decode cX9_init 664 = .ok (.dup, 1) := by decide +kernel
theorem dX9_init_665 : decode cX9_init 665 = .ok (.iconst 2, 1) := by decide +kernel
theorem dX9_init_666 : decode cX9_init 666 = .ok (.bipush 72, 2) := by decide +kernel
theorem dX9_init_668 : decode cX9_init 668 = .ok (.castore, 1) := by decide +kernel
theorem dX9_init_669 : decode cX9_init 669 = .ok (.dup, 1) := by decide +kernel
theorem dX9_init_670 : decode cX9_init 670 = .ok (.iconst 3, 1) := by decide +kernel
theorem dX9_init_671 : decode cX9_init 671 = .ok (.bipush 111, 2) := by decide +kernel
theorem dX9_init_673 : decode cX9_init 673 = .ok (.castore, 1) := by decide +kernel
theorem dX9_init_674 : decode cX9_init 674 = .ok (.dup, 1) := by decide +kernel
theorem dX9_init_675 : decode cX9_init 675 = .ok (.iconst 4, 1) := by decide +kernel
theorem dX9_init_676 : decode cX9_init 676 = .ok (.bipush 115, 2) := by decide +kernel
theorem dX9_init_678 : decode cX9_init 678 = .ok (.castore, 1) := by decide +kernel
theorem dX9_init_679 : decode cX9_init 679 = .ok (.dup, 1) := by decide +kernel
theorem dX9_init_680 : decode cX9_init 680 = .ok (.iconst 5, 1) := by decide +kernel
theorem dX9_init_681 : decode cX9_init 681 = .ok (.bipush 116, 2) := by decide +kernel
theorem dX9_init_683 : decode cX9_init 683 = .ok (.castore, 1) := by decide +kernel
theorem dX9_init_684 : decode cX9_init 684 = .ok (.dup, 1) := by decide +kernel
theorem dX9_init_685 : decode cX9_init 685 = .ok (.bipush 6, 2) := by decide +kernel
theorem dX9_init_687 : decode cX9_init 687 = .ok (.bipush 45, 2) := by decide +kernel
theorem dX9_init_689 : decode cX9_init 689 = .ok (.castore, 1) := by decide +kernel
theorem dX9_init_690 : decode cX9_init 690 = .ok (.putfield 72, 3) := by decide +kernel
theorem dX9_init_693 : decode cX9_init 693 = .ok (.aload_n 0, 1) := by decide +kernel
theorem dX9_init_694 : decode cX9_init 694 = .ok (.bipush 36, 2) := by decide +kernel
theorem dX9_init_696 : decode cX9_init 696 = .ok (.newarray .char, 2) := by decide +kernel
theorem dX9_init_698 : decode cX9_init 698 = .ok (.dup, 1) := by decide +kernel
theorem dX9_init_699 : decode cX9_init 699 = .ok (.iconst 0, 1) := by decide +kernel
theorem dX9_init_700 : decode cX9_init 700 = .ok (.bipush 74, 2) := by decide +kernel
theorem dX9_init_702 : decode cX9_init 702 = .ok (.castore, 1) := by decide +kernel
theorem dX9_init_703 : decode cX9_init 703 = .ok (.dup, 1) := by decide +kernel
theorem dX9_init_704 : decode cX9_init 704 = .ok (.iconst 1, 1) := by decide +kernel
theorem dX9_init_705 : decode cX9_init 705 = .ok (.bipush 97, 2) := by decide +kernel
theorem dX9_init_707 : decode cX9_init 707 = .ok (.castore, 1) := by decide +kernel
theorem dX9_init_708 : decode cX9_init 708 = .ok (.dup, 1) := by decide +kernel
theorem dX9_init_709 : decode cX9_init 709 = .ok (.iconst 2, 1) := by decide +kernel
theorem dX9_init_710 : decode cX9_init 710 = .ok (.bipush 110, 2) := by decide +kernel
theorem dX9_init_712 : decode cX9_init 712 = .ok (.castore, 1) := by decide +kernel
theorem dX9_init_713 : decode cX9_init 713 = .ok (.dup, 1) := by decide +kernel
theorem dX9_init_714 : decode cX9_init 714 = .ok (.iconst 3, 1) := by decide +kernel
theorem dX9_init_715 : decode cX9_init 715 = .ok (.bipush 70, 2) := by decide +kernel
theorem dX9_init_717 : decode cX9_init 717 = .ok (.castore, 1) := by decide +kernel
theorem dX9_init_718 : decode cX9_init 718 = .ok (.dup, 1) := by decide +kernel
theorem dX9_init_719 : decode cX9_init 719 = .ok (.iconst 4, 1) := by decide +kernel
theorem dX9_init_720 : decode cX9_init 720 = .ok (.bipush 101, 2) := by decide +kernel
theorem dX9_init_722 : decode cX9_init 722 = .ok (.castore, 1) := by decide +kernel
theorem dX9_init_723 : decode cX9_init 723 = .ok (.dup, 1) := by decide +kernel
theorem dX9_init_724 : decode cX9_init 724 = .ok (.iconst 5, 1) := by decide +kernel
theorem dX9_init_725 : decode cX9_init 725 = .ok (.bipush 98, 2) := by decide +kernel
theorem dX9_init_727 : decode cX9_init 727 = .ok (.castore, 1) := by decide +kernel
theorem dX9_init_728 : decode cX9_init 728 = .ok (.dup, 1) := by decide +kernel
theorem dX9_init_729 : decode cX9_init 729 = .ok (.bipush 6, 2) := by decide +kernel
theorem dX9_init_731 : decode cX9_init 731 = .ok (.bipush 77, 2) := by decide +kernel
theorem dX9_init_733 : decode cX9_init 733 = .ok (.castore, 1) := by decide +kernel
theorem dX9_init_734 : decode cX9_init 734 = .ok (.dup, 1) := by decide +kernel
theorem dX9_init_735 : decode cX9_init 735 = .ok (.bipush 7, 2) := by decide +kernel
theorem dX9_init_737 : decode cX9_init 737 = .ok (.bipush 97, 2) := by decide +kernel
theorem dX9_init_739 : decode cX9_init 739 = .ok (.castore, 1) := by decide +kernel
theorem dX9_init_740 : decode cX9_init 740 = .ok (.dup, 1) := by decide +kernel
theorem dX9_init_741 : decode cX9_init 741 = .ok (.bipush 8, 2) := by decide +kernel
theorem dX9_init_743 : decode cX9_init 743 = .ok (.bipush 114, 2) := by decide +kernel
theorem dX9_init_745 : decode cX9_init 745 = .ok (.castore, 1) := by decide +kernel
theorem dX9_init_746 : decode cX9_init 746 = .ok (.dup, 1) := by decide +kernel
theorem dX9_init_747 : decode cX9_init 747 = .ok (.bipush 9, 2) := by decide +kernel
theorem dX9_init_749 : decode cX9_init 749 = .ok (.bipush 65, 2) := by decide +kernel
theorem dX9_init_751 : decode cX9_init 751 = .ok (.castore, 1) := by decide +kernel
theorem dX9_init_752 : decode cX9_init 752 = .ok (.dup, 1) := by decide +kernel
theorem dX9_init_753 : decode cX9_init 753 = .ok (.bipush 10, 2) := by decide +kernel
theorem dX9_init_755 : decode cX9_init 755 = .ok (.bipush 112, 2) := by decide +kernel
theorem dX9_init_757 : decode cX9_init 757 = .ok (.castore, 1) := by decide +kernel
theorem dX9_init_758 : decode cX9_init 758 = .ok (.dup, 1) := by decide +kernel
theorem dX9_init_759 : decode cX9_init 759 = .ok (.bipush 11, 2) := by decide +kernel
theorem dX9_init_761 : decode cX9_init 761 = .ok (.bipush 114, 2) := by decide +kernel
theorem dX9_init_763 : decode cX9_init 763 = .ok (.castore, 1) := by decide +kernel
theorem dX9_init_764 : decode cX9_init 764 = .ok (.dup, 1) := by decide +kernel
theorem dX9_init_765 : decode cX9_init 765 = .ok (.bipush 12, 2) := by decide +kernel
theorem dX9_init_767 : decode cX9_init 767 = .ok (.bipush 77, 2) := by decide +kernel
theorem dX9_init_769 : decode cX9_init 769 = .ok (.castore, 1) := by decide +kernel
theorem dX9_init_770 : decode cX9_init 770 = .ok (.dup, 1) := by decide +kernel
theorem dX9_init_771 : decode cX9_init 771 = .ok (.bipush 13, 2) := by decide +kernel
theorem dX9_init_773 : decode cX9_init 773 = .ok (.bipush 97, 2) := by decide +kernel
theorem dX9_init_775 : decode cX9_init 775 = .ok (.castore, 1) := by decide +kernel
theorem dX9_init_776 : decode cX9_init 776 = .ok (.dup, 1) := by decide +kernel
theorem dX9_init_777 : decode cX9_init 777 = .ok (.bipush 14, 2) := by decide +kernel
theorem dX9_init_779 : decode cX9_init 779 = .ok (.bipush 121, 2) := by decide +kernel
theorem dX9_init_781 : decode cX9_init 781 = .ok (.castore, 1) := by decide +kernel
theorem dX9_init_782 : decode cX9_init 782 = .ok (.dup, 1) := by decide +kernel
theorem dX9_init_783 : decode cX9_init 783 = .ok (.bipush 15, 2) := by decide +kernel
theorem dX9_init_785 : decode cX9_init 785 = .ok (.bipush 74, 2) := by decide +kernel
theorem dX9_init_787 : decode cX9_init 787 = .ok (.castore, 1) := by decide +kernel
theorem dX9_init_788 : decode cX9_init 788 = .ok (.dup, 1) := by decide +kernel
theorem dX9_init_789 : decode cX9_init 789 = .ok (.bipush 16, 2) := by decide +kernel
theorem dX9_init_791 : decode cX9_init 791 = .ok (.bipush 117, 2) := by decide +kernel
theorem dX9_init_793 : decode cX9_init 793 = .ok (.castore, 1) := by decide +kernel
theorem dX9_init_794 : decode cX9_init 794 = .ok (.dup, 1) := by decide +kernel
theorem dX9_init_795 : decode cX9_init 795 = .ok (.bipush 17, 2) := by decide +kernel
theorem dX9_init_797 : decode cX9_init 797 = .ok (.bipush 110, 2) := by decide +kernel
theorem dX9_init_799 : decode cX9_init 799 = .ok (.castore, 1) := by decide +kernel
theorem dX9_init_800 : decode cX9_init 800 = .ok (.dup, 1) := by decide +kernel
theorem dX9_init_801 : decode cX9_init 801 = .ok (.bipush 18, 2) := by decide +kernel
theorem dX9_init_803 : decode cX9_init 803 = .ok (.bipush 74, 2) := by decide +kernel
theorem dX9_init_805 : decode cX9_init 805 = .ok (.castore, 1) := by decide +kernel
theorem dX9_init_806 : decode cX9_init 806 = .ok (.dup, 1) := by decide +kernel
theorem dX9_init_807 : decode cX9_init 807 = .ok (.bipush 19, 2) := by decide +kernel
theorem dX9_init_809 : decode cX9_init 809 = .ok (.bipush 117, 2) := by decide +kernel
theorem dX9_init_811 : decode cX9_init 811 = .ok (.castore, 1) := by decide +kernel
theorem dX9_init_812 : decode cX9_init 812 = .ok (.dup, 1) := by decide +kernel
theorem dX9_init_813 : decode cX9_init 813 = .ok (.bipush 20, 2) := by decide +kernel
theorem dX9_init_815 : decode cX9_init 815 = .ok (.bipush 108, 2) := by decide +kernel
theorem dX9_init_817 : decode cX9_init 817 = .ok (.castore, 1) := by decide +kernel
theorem dX9_init_818 : decode cX9_init 818 = .ok (.dup, 1) := by decide +kernel
theorem dX9_init_819 : decode cX9_init 819 = .ok (.bipush 21, 2) := by decide +kernel
theorem dX9_init_821 : decode cX9_init 821 = .ok (.bipush 65, 2) := by decide +kernel
theorem dX9_init_823 : decode cX9_init 823 = .ok (.castore, 1) := by decide +kernel
theorem dX9_init_824 : decode cX9_init 824 = .ok (.dup, 1) := by decide +kernel
theorem dX9_init_825 : decode cX9_init 825 = .ok (.bipush 22, 2) := by decide +kernel
theorem dX9_init_827 : decode cX9_init 827 = .ok (.bipush 117, 2) := by decide +kernel
theorem dX9_init_829 : decode cX9_init 829 = .ok (.castore, 1) := by decide +kernel
theorem dX9_init_830 : decode cX9_init 830 = .ok (.dup, 1) := by decide +kernel
theorem dX9_init_831 : decode cX9_init 831 = .ok (.bipush 23, 2) := by decide +kernel
theorem dX9_init_833 : decode cX9_init 833 = .ok (.bipush 103, 2) := by decide +kernel
theorem dX9_init_835 : decode cX9_init 835 = .ok (.castore, 1) := by decide +kernel
theorem dX9_init_836 : decode cX9_init 836 = .ok (.dup, 1) := by decide +kernel
theorem dX9_init_837 : decode cX9_init 837 = .ok (.bipush 24, 2) := by decide +kernel
theorem dX9_init_839 : decode cX9_init 839 = .ok (.bipush 83, 2) := by decide +kernel
theorem dX9_init_841 : decode cX9_init 841 = .ok (.castore, 1) := by decide +kernel
theorem dX9_init_842 : decode cX9_init 842 = .ok (.dup, 1) := by decide +kernel
theorem dX9_init_843 : decode cX9_init 843 = .ok (.bipush 25, 2) := by decide +kernel
theorem dX9_init_845 : decode cX9_init 845 = .ok (.bipush 101, 2) := by decide +kernel
theorem dX9_init_847 : decode cX9_init 847 = .ok (.castore, 1) := by decide +kernel
theorem dX9_init_848 : decode cX9_init 848 = .ok (.dup, 1) := by decide +kernel
theorem dX9_init_849 : decode cX9_init 849 = .ok (.bipush 26, 2) := by decide +kernel
theorem dX9_init_851 : decode cX9_init 851 = .ok (.bipush 112, 2) := by decide +kernel
theorem dX9_init_853 : decode cX9_init 853 = .ok (.castore, 1) := by decide +kernel
theorem dX9_init_854 : decode cX9_init 854 = .ok (.dup, 1) := by decide +kernel
theorem dX9_init_855 : decode cX9_init 855 = .ok (.bipush 27, 2) := by decide +kernel
theorem dX9_init_857 : decode cX9_init 857 = .ok (.bipush 79, 2) := by decide +kernel
theorem dX9_init_859 : decode cX9_init 859 = .ok (.castore, 1) := by decide +kernel
theorem dX9_init_860 : decode cX9_init 860 = .ok (.dup, 1) := by decide +kernel
theorem dX9_init_861 : decode cX9_init 861 = .ok (.bipush 28, 2) := by decide +kernel
theorem dX9_init_863 : decode cX9_init 863 = .ok (.bipush 99, 2) := by decide +kernel
theorem dX9_init_865 : decode cX9_init 865 = .ok (.castore, 1) := by decide +kernel
theorem dX9_init_866 : decode cX9_init 866 = .ok (.dup, 1) := by decide +kernel
theorem dX9_init_867 : decode cX9_init 867 = .ok (.bipush 29, 2) := by decide +kernel
theorem dX9_init_869 : decode cX9_init 869 = .ok (.bipush 116, 2) := by decide +kernel
theorem dX9_init_871 : decode cX9_init 871 = .ok (.castore, 1) := by decide +kernel
theorem dX9_init_872 : decode cX9_init 872 = .ok (.dup, 1) := by decide +kernel
theorem dX9_init_873 : decode cX9_init 873 = .ok (.bipush 30, 2) := by decide +kernel
theorem dX9_init_875 : decode cX9_init 875 = .ok (.bipush 78, 2) := by decide +kernel
theorem dX9_init_877 : decode cX9_init 877 = .ok (.castore, 1) := by decide +kernel
theorem dX9_init_878 : decode cX9_init 878 = .ok (.dup, 1) := by decide +kernel
theorem dX9_init_879 : decode cX9_init 879 = .ok (.bipush 31, 2) := by decide +kernel
theorem dX9_init_881 : decode cX9_init 881 = .ok (.bipush 111, 2) := by decide +kernel
theorem dX9_init_883 : decode cX9_init 883 = .ok (.castore, 1) := by decide +kernel
theorem dX9_init_884 : decode cX9_init 884 = .ok (.dup, 1) := by decide +kernel
theorem dX9_init_885 : decode cX9_init 885 = .ok (.bipush 32, 2) := by decide +kernel
theorem dX9_init_887 : decode cX9_init 887 = .ok (.bipush 118, 2) := by decide +kernel
theorem dX9_init_889 : decode cX9_init 889 = .ok (.castore, 1) := by decide +kernel
theorem dX9_init_890 : decode cX9_init 890 = .ok (.dup, 1) := by decide +kernel
theorem dX9_init_891 : decode cX9_init 891 = .ok (.bipush 33, 2) := by decide +kernel
theorem dX9_init_893 : decode cX9_init 893 = .ok (.bipush 68, 2) := by decide +kernel
theorem dX9_init_895 : decode cX9_init 895 = .ok (.castore, 1) := by decide +kernel
theorem dX9_init_896 : decode cX9_init 896 = .ok (.dup, 1) := by decide +kernel
theorem dX9_init_897 : decode cX9_init 897 = .ok (.bipush 34, 2) := by decide +kernel
theorem dX9_init_899 : decode cX9_init 899 = .ok (.bipush 101, 2) := by decide +kernel
theorem dX9_init_901 : decode cX9_init 901 = .ok (.castore, 1) := by decide +kernel
theorem dX9_init_902 : decode cX9_init 902 = .ok (.dup, 1) := by decide +kernel
theorem dX9_init_903 : decode cX9_init 903 = .ok (.bipush 35, 2) := by decide +kernel
theorem dX9_init_905 : decode cX9_init 905 = .ok (.bipush 99, 2) := by decide +kernel
theorem dX9_init_907 : decode cX9_init 907 = .ok (.castore, 1) := by decide +kernel
theorem dX9_init_908 : decode cX9_init 908 = .ok (.putfield 75, 3) := by decide +kernel
theorem dX9_init_911 : decode cX9_init 911 = .ok (.aload_n 0, 1) := by decide +kernel
theorem dX9_init_912 : decode cX9_init 912 = .ok (.getfield 7, 3) := by decide +kernel
theorem dX9_init_915 : decode cX9_init 915 = .ok (.iconst 2, 1) := by decide +kernel
theorem dX9_init_916 : decode cX9_init 916 = .ok (.ldc2_w 78, 3) := by decide +kernel
theorem dX9_init_919 : decode cX9_init 919 = .ok (.lastore, 1) := by decide +kernel
theorem dX9_init_920 : decode cX9_init 920 = .ok (.aload_n 0, 1) := by decide +kernel
theorem dX9_init_921 : decode cX9_init 921 = .ok (.getfield 7, 3) := by decide +kernel
theorem dX9_init_924 : decode cX9_init 924 = .ok (.iconst 3, 1) := by decide +kernel
theorem dX9_init_925 : decode cX9_init 925 = .ok (.ldc2_w 80, 3) := by decide +kernel
theorem dX9_init_928 : decode cX9_init 928 = .ok (.lastore, 1) := by decide +kernel
theorem dX9_init_929 : decode cX9_init 929 = .ok (.return_, 1) := by decide +kernel
theorem dX9_thrown_0 : decode cX9_thrown 0 = .ok (.aload_n 0, 1) := by decide +kernel
theorem dX9_thrown_1 : decode cX9_thrown 1 = .ok (.getfield 82, 3) := by decide +kernel
theorem dX9_thrown_4 : decode cX9_thrown 4 = .ok (.ireturn, 1) := by decide +kernel
theorem dX9_in_0 : decode cX9_in 0 = .ok (.lload_n 0, 1) := by decide +kernel
theorem dX9_in_1 : decode cX9_in 1 = .ok (.lload_n 2, 1) := by decide +kernel
theorem dX9_in_2 : decode cX9_in 2 = .ok (.lcmp, 1) := by decide +kernel
theorem dX9_in_3 : decode cX9_in 3 = .ok (.ifCond .lt 14, 3) := by decide +kernel
theorem dX9_in_6 : decode cX9_in 6 = .ok (.lload_n 0, 1) := by decide +kernel
theorem dX9_in_7 : decode cX9_in 7 = .ok (.lload 4, 2) := by decide +kernel
theorem dX9_in_9 : decode cX9_in 9 = .ok (.lcmp, 1) := by decide +kernel
theorem dX9_in_10 : decode cX9_in 10 = .ok (.ifCond .gt 7, 3) := by decide +kernel
theorem dX9_in_13 : decode cX9_in 13 = .ok (.iconst 1, 1) := by decide +kernel
theorem dX9_in_14 : decode cX9_in 14 = .ok (.goto 4, 3) := by decide +kernel
theorem dX9_in_17 : decode cX9_in 17 = .ok (.iconst 0, 1) := by decide +kernel
theorem dX9_in_18 : decode cX9_in 18 = .ok (.ireturn, 1) := by decide +kernel
theorem dX9_fails_0 : decode cX9_fails 0 = .ok (.aload_n 0, 1) := by decide +kernel
theorem dX9_fails_1 : decode cX9_fails 1 = .ok (.iload_n 1, 1) := by decide +kernel
theorem dX9_fails_2 : decode cX9_fails 2 = .ok (.putfield 82, 3) := by decide +kernel
theorem dX9_fails_5 : decode cX9_fails 5 = .ok (.iconst 0, 1) := by decide +kernel
theorem dX9_fails_6 : decode cX9_fails 6 = .ok (.ireturn, 1) := by decide +kernel
theorem dX9_areLike_0 : decode cX9_areLike 0 = .ok (.iload_n 2, 1) := by decide +kernel
theorem dX9_areLike_1 : decode cX9_areLike 1 = .ok (.iload 4, 2) := by decide +kernel
theorem dX9_areLike_3 : decode cX9_areLike 3 = .ok (.if_icmp .ne 7, 3) := by decide +kernel
theorem dX9_areLike_6 : decode cX9_areLike 6 = .ok (.iconst 1, 1) := by decide +kernel
theorem dX9_areLike_7 : decode cX9_areLike 7 = .ok (.goto 4, 3) := by decide +kernel
theorem dX9_areLike_10 : decode cX9_areLike 10 = .ok (.iconst 0, 1) := by decide +kernel
theorem dX9_areLike_11 : decode cX9_areLike 11 = .ok (.istore 5, 2) := by decide +kernel
theorem dX9_areLike_13 : decode cX9_areLike 13 = .ok (.iconst 0, 1) := by decide +kernel
theorem dX9_areLike_14 : decode cX9_areLike 14 = .ok (.istore 6, 2) := by decide +kernel
theorem dX9_areLike_16 : decode cX9_areLike 16 = .ok (.iload 6, 2) := by decide +kernel
theorem dX9_areLike_18 : decode cX9_areLike 18 = .ok (.iload_n 2, 1) := by decide +kernel
theorem dX9_areLike_19 : decode cX9_areLike 19 = .ok (.if_icmp .ge 43, 3) := by decide +kernel
theorem dX9_areLike_22 : decode cX9_areLike 22 = .ok (.iload 5, 2) := by decide +kernel
theorem dX9_areLike_24 : decode cX9_areLike 24 = .ok (.ifCond .eq 38, 3) := by decide +kernel
theorem dX9_areLike_27 : decode cX9_areLike 27 = .ok (.aload_n 0, 1) := by decide +kernel
theorem dX9_areLike_28 : decode cX9_areLike 28 = .ok (.getfield 7, 3) := by decide +kernel
theorem dX9_areLike_31 : decode cX9_areLike 31 = .ok (.iload_n 1, 1) := by decide +kernel
theorem dX9_areLike_32 : decode cX9_areLike 32 = .ok (.iload 6, 2) := by decide +kernel
theorem dX9_areLike_34 : decode cX9_areLike 34 = .ok (.iadd, 1) := by decide +kernel
theorem dX9_areLike_35 : decode cX9_areLike 35 = .ok (.laload, 1) := by decide +kernel
theorem dX9_areLike_36 : decode cX9_areLike 36 = .ok (.aload_n 0, 1) := by decide +kernel
theorem dX9_areLike_37 : decode cX9_areLike 37 = .ok (.getfield 7, 3) := by decide +kernel
theorem dX9_areLike_40 : decode cX9_areLike 40 = .ok (.iload_n 3, 1) := by decide +kernel
theorem dX9_areLike_41 : decode cX9_areLike 41 = .ok (.iload 6, 2) := by decide +kernel
theorem dX9_areLike_43 : decode cX9_areLike 43 = .ok (.iadd, 1) := by decide +kernel
theorem dX9_areLike_44 : decode cX9_areLike 44 = .ok (.laload, 1) := by decide +kernel
theorem dX9_areLike_45 : decode cX9_areLike 45 = .ok (.lcmp, 1) := by decide +kernel
theorem dX9_areLike_46 : decode cX9_areLike 46 = .ok (.ifCond .ne 7, 3) := by decide +kernel
theorem dX9_areLike_49 : decode cX9_areLike 49 = .ok (.iconst 1, 1) := by decide +kernel
theorem dX9_areLike_50 : decode cX9_areLike 50 = .ok (.goto 4, 3) := by decide +kernel
theorem dX9_areLike_53 : decode cX9_areLike 53 = .ok (.iconst 0, 1) := by decide +kernel
theorem dX9_areLike_54 : decode cX9_areLike 54 = .ok (.istore 5, 2) := by decide +kernel
theorem dX9_areLike_56 : decode cX9_areLike 56 = .ok (.iinc 6 1, 3) := by decide +kernel
theorem dX9_areLike_59 : decode cX9_areLike 59 = .ok (.goto (-43), 3) := by decide +kernel
theorem dX9_areLike_62 : decode cX9_areLike 62 = .ok (.iload 5, 2) := by decide +kernel
theorem dX9_areLike_64 : decode cX9_areLike 64 = .ok (.ireturn, 1) := by decide +kernel
theorem dX9_ordered_0 : decode cX9_ordered 0 = .ok (.iconst 0, 1) := by decide +kernel
theorem dX9_ordered_1 : decode cX9_ordered 1 = .ok (.istore 5, 2) := by decide +kernel
theorem dX9_ordered_3 : decode cX9_ordered 3 = .ok (.iload 5, 2) := by decide +kernel
theorem dX9_ordered_5 : decode cX9_ordered 5 = .ok (.iload_n 2, 1) := by decide +kernel
theorem dX9_ordered_6 : decode cX9_ordered 6 = .ok (.if_icmp .ge 66, 3) := by decide +kernel
theorem dX9_ordered_9 : decode cX9_ordered 9 = .ok (.iload 5, 2) := by decide +kernel
theorem dX9_ordered_11 : decode cX9_ordered 11 = .ok (.iload 4, 2) := by decide +kernel
theorem dX9_ordered_13 : decode cX9_ordered 13 = .ok (.if_icmp .ge 59, 3) := by decide +kernel
theorem dX9_ordered_16 : decode cX9_ordered 16 = .ok (.aload_n 0, 1) := by decide +kernel
theorem dX9_ordered_17 : decode cX9_ordered 17 = .ok (.getfield 7, 3) := by decide +kernel
theorem dX9_ordered_20 : decode cX9_ordered 20 = .ok (.iload_n 1, 1) := by decide +kernel
theorem dX9_ordered_21 : decode cX9_ordered 21 = .ok (.iload 5, 2) := by decide +kernel
theorem dX9_ordered_23 : decode cX9_ordered 23 = .ok (.iadd, 1) := by decide +kernel
theorem dX9_ordered_24 : decode cX9_ordered 24 = .ok (.laload, 1) := by decide +kernel
theorem dX9_ordered_25 : decode cX9_ordered 25 = .ok (.aload_n 0, 1) := by decide +kernel
theorem dX9_ordered_26 : decode cX9_ordered 26 = .ok (.getfield 7, 3) := by decide +kernel
theorem dX9_ordered_29 : decode cX9_ordered 29 = .ok (.iload_n 3, 1) := by decide +kernel
theorem dX9_ordered_30 : decode cX9_ordered 30 = .ok (.iload 5, 2) := by decide +kernel
theorem dX9_ordered_32 : decode cX9_ordered 32 = .ok (.iadd, 1) := by decide +kernel
theorem dX9_ordered_33 : decode cX9_ordered 33 = .ok (.laload, 1) := by decide +kernel
theorem dX9_ordered_34 : decode cX9_ordered 34 = .ok (.lcmp, 1) := by decide +kernel
theorem dX9_ordered_35 : decode cX9_ordered 35 = .ok (.ifCond .eq 31, 3) := by decide +kernel
theorem dX9_ordered_38 : decode cX9_ordered 38 = .ok (.aload_n 0, 1) := by decide +kernel
theorem dX9_ordered_39 : decode cX9_ordered 39 = .ok (.getfield 7, 3) := by decide +kernel
theorem dX9_ordered_42 : decode cX9_ordered 42 = .ok (.iload_n 1, 1) := by decide +kernel
theorem dX9_ordered_43 : decode cX9_ordered 43 = .ok (.iload 5, 2) := by decide +kernel
theorem dX9_ordered_45 : decode cX9_ordered 45 = .ok (.iadd, 1) := by decide +kernel
theorem dX9_ordered_46 : decode cX9_ordered 46 = .ok (.laload, 1) := by decide +kernel
theorem dX9_ordered_47 : decode cX9_ordered 47 = .ok (.aload_n 0, 1) := by decide +kernel
theorem dX9_ordered_48 : decode cX9_ordered 48 = .ok (.getfield 7, 3) := by decide +kernel
theorem dX9_ordered_51 : decode cX9_ordered 51 = .ok (.iload_n 3, 1) := by decide +kernel
theorem dX9_ordered_52 : decode cX9_ordered 52 = .ok (.iload 5, 2) := by decide +kernel
theorem dX9_ordered_54 : decode cX9_ordered 54 = .ok (.iadd, 1) := by decide +kernel
theorem dX9_ordered_55 : decode cX9_ordered 55 = .ok (.laload, 1) := by decide +kernel
theorem dX9_ordered_56 : decode cX9_ordered 56 = .ok (.lcmp, 1) := by decide +kernel
theorem dX9_ordered_57 : decode cX9_ordered 57 = .ok (.ifCond .ge 7, 3) := by decide +kernel
theorem dX9_ordered_60 : decode cX9_ordered 60 = .ok (.iconst (-1), 1) := by decide +kernel
theorem dX9_ordered_61 : decode cX9_ordered 61 = .ok (.goto 4, 3) := by decide +kernel
theorem dX9_ordered_64 : decode cX9_ordered 64 = .ok (.iconst 1, 1) := by decide +kernel
theorem dX9_ordered_65 : decode cX9_ordered 65 = .ok (.ireturn, 1) := by decide +kernel
theorem dX9_ordered_66 : decode cX9_ordered 66 = .ok (.iinc 5 1, 3) := by decide +kernel
theorem dX9_ordered_69 : decode cX9_ordered 69 = .ok (.goto (-66), 3) := by decide +kernel
theorem dX9_ordered_72 : decode cX9_ordered 72 = .ok (.iload_n 2, 1) := by decide +kernel
theorem dX9_ordered_73 : decode cX9_ordered 73 = .ok (.iload 4, 2) := by decide +kernel
theorem dX9_ordered_75 : decode cX9_ordered 75 = .ok (.if_icmp .ne 7, 3) := by decide +kernel
theorem dX9_ordered_78 : decode cX9_ordered 78 = .ok (.iconst 0, 1) := by decide +kernel
theorem dX9_ordered_79 : decode cX9_ordered 79 = .ok (.goto 14, 3) := by decide +kernel
theorem dX9_ordered_82 : decode cX9_ordered 82 = .ok (.iload_n 2, 1) := by decide +kernel
theorem dX9_ordered_83 : decode cX9_ordered 83 = .ok (.iload 4, 2) := by decide +kernel
theorem dX9_ordered_85 : decode cX9_ordered 85 = .ok (.if_icmp .ge 7, 3) := by decide +kernel
theorem dX9_ordered_88 : decode cX9_ordered 88 = .ok (.iconst (-1), 1) := by decide +kernel
theorem dX9_ordered_89 : decode cX9_ordered 89 = .ok (.goto 4, 3) := by decide +kernel
theorem dX9_ordered_92 : decode cX9_ordered 92 = .ok (.iconst 1, 1) := by decide +kernel
theorem dX9_ordered_93 : decode cX9_ordered 93 = .ok (.ireturn, 1) := by decide +kernel
theorem dX9_begins_0 : decode cX9_begins 0 = .ok (.iload_n 2, 1) := by decide +kernel
theorem dX9_begins_1 : decode cX9_begins 1 = .ok (.aload_n 3, 1) := by decide +kernel
theorem dX9_begins_2 : decode cX9_begins 2 = .ok (.arraylength, 1) := by decide +kernel
theorem dX9_begins_3 : decode cX9_begins 3 = .ok (.if_icmp .lt 7, 3) := by decide +kernel
theorem dX9_begins_6 : decode cX9_begins 6 = .ok (.iconst 1, 1) := by decide +kernel
theorem dX9_begins_7 : decode cX9_begins 7 = .ok (.goto 4, 3) := by decide +kernel
theorem dX9_begins_10 : decode cX9_begins 10 = .ok (.iconst 0, 1) := by decide +kernel
theorem dX9_begins_11 : decode cX9_begins 11 = .ok (.istore 4, 2) := by decide +kernel
theorem dX9_begins_13 : decode cX9_begins 13 = .ok (.iconst 0, 1) := by decide +kernel
theorem dX9_begins_14 : decode cX9_begins 14 = .ok (.istore 5, 2) := by decide +kernel
theorem dX9_begins_16 : decode cX9_begins 16 = .ok (.iload 5, 2) := by decide +kernel
theorem dX9_begins_18 : decode cX9_begins 18 = .ok (.aload_n 3, 1) := by decide +kernel
theorem dX9_begins_19 : decode cX9_begins 19 = .ok (.arraylength, 1) := by decide +kernel
theorem dX9_begins_20 : decode cX9_begins 20 = .ok (.if_icmp .ge 39, 3) := by decide +kernel
theorem dX9_begins_23 : decode cX9_begins 23 = .ok (.iload 4, 2) := by decide +kernel
theorem dX9_begins_25 : decode cX9_begins 25 = .ok (.ifCond .eq 34, 3) := by decide +kernel
theorem dX9_begins_28 : decode cX9_begins 28 = .ok (.aload_n 0, 1) := by decide +kernel
theorem dX9_begins_29 : decode cX9_begins 29 = .ok (.getfield 7, 3) := by decide +kernel
theorem dX9_begins_32 : decode cX9_begins 32 = .ok (.iload_n 1, 1) := by decide +kernel
theorem dX9_begins_33 : decode cX9_begins 33 = .ok (.iload 5, 2) := by decide +kernel
theorem dX9_begins_35 : decode cX9_begins 35 = .ok (.iadd, 1) := by decide +kernel
theorem dX9_begins_36 : decode cX9_begins 36 = .ok (.laload, 1) := by decide +kernel
theorem dX9_begins_37 : decode cX9_begins 37 = .ok (.aload_n 3, 1) := by decide +kernel
theorem dX9_begins_38 : decode cX9_begins 38 = .ok (.iload 5, 2) := by decide +kernel
theorem dX9_begins_40 : decode cX9_begins 40 = .ok (.caload, 1) := by decide +kernel
theorem dX9_begins_41 : decode cX9_begins 41 = .ok (.i2l, 1) := by decide +kernel
theorem dX9_begins_42 : decode cX9_begins 42 = .ok (.lcmp, 1) := by decide +kernel
theorem dX9_begins_43 : decode cX9_begins 43 = .ok (.ifCond .ne 7, 3) := by decide +kernel
theorem dX9_begins_46 : decode cX9_begins 46 = .ok (.iconst 1, 1) := by decide +kernel
theorem dX9_begins_47 : decode cX9_begins 47 = .ok (.goto 4, 3) := by decide +kernel
theorem dX9_begins_50 : decode cX9_begins 50 = .ok (.iconst 0, 1) := by decide +kernel
theorem dX9_begins_51 : decode cX9_begins 51 = .ok (.istore 4, 2) := by decide +kernel
theorem dX9_begins_53 : decode cX9_begins 53 = .ok (.iinc 5 1, 3) := by decide +kernel
theorem dX9_begins_56 : decode cX9_begins 56 = .ok (.goto (-40), 3) := by decide +kernel
theorem dX9_begins_59 : decode cX9_begins 59 = .ok (.iload 4, 2) := by decide +kernel
theorem dX9_begins_61 : decode cX9_begins 61 = .ok (.ireturn, 1) := by decide +kernel
theorem dX9_copies_0 : decode cX9_copies 0 = .ok (.iconst 0, 1) := by decide +kernel
theorem dX9_copies_1 : decode cX9_copies 1 = .ok (.istore 4, 2) := by decide +kernel
theorem dX9_copies_3 : decode cX9_copies 3 = .ok (.iload 4, 2) := by decide +kernel
theorem dX9_copies_5 : decode cX9_copies 5 = .ok (.iload_n 2, 1) := by decide +kernel
theorem dX9_copies_6 : decode cX9_copies 6 = .ok (.if_icmp .ge 27, 3) := by decide +kernel
theorem dX9_copies_9 : decode cX9_copies 9 = .ok (.aload_n 0, 1) := by decide +kernel
theorem dX9_copies_10 : decode cX9_copies 10 = .ok (.getfield 7, 3) := by decide +kernel
theorem dX9_copies_13 : decode cX9_copies 13 = .ok (.iload_n 3, 1) := by decide +kernel
theorem dX9_copies_14 : decode cX9_copies 14 = .ok (.iload 4, 2) := by decide +kernel
theorem dX9_copies_16 : decode cX9_copies 16 = .ok (.iadd, 1) := by decide +kernel
theorem dX9_copies_17 : decode cX9_copies 17 = .ok (.aload_n 0, 1) := by decide +kernel
theorem dX9_copies_18 : decode cX9_copies 18 = .ok (.getfield 7, 3) := by decide +kernel
theorem dX9_copies_21 : decode cX9_copies 21 = .ok (.iload_n 1, 1) := by decide +kernel
theorem dX9_copies_22 : decode cX9_copies 22 = .ok (.iload 4, 2) := by decide +kernel
theorem dX9_copies_24 : decode cX9_copies 24 = .ok (.iadd, 1) := by decide +kernel
theorem dX9_copies_25 : decode cX9_copies 25 = .ok (.laload, 1) := by decide +kernel
theorem dX9_copies_26 : decode cX9_copies 26 = .ok (.lastore, 1) := by decide +kernel
theorem dX9_copies_27 : decode cX9_copies 27 = .ok (.iinc 4 1, 3) := by decide +kernel
theorem dX9_copies_30 : decode cX9_copies 30 = .ok (.goto (-27), 3) := by decide +kernel
theorem dX9_copies_33 : decode cX9_copies 33 = .ok (.return_, 1) := by decide +kernel
theorem dX9_isLabelSign_0 : decode cX9_isLabelSign 0 = .ok (.lload_n 0, 1) := by decide +kernel
theorem dX9_isLabelSign_1 : decode cX9_isLabelSign 1 = .ok (.ldc2_w 86, 3) := by decide +kernel
theorem dX9_isLabelSign_4 : decode cX9_isLabelSign 4 = .ok (.ldc2_w 88, 3) := by decide +kernel
theorem dX9_isLabelSign_7 : decode cX9_isLabelSign 7 = .ok (.invokestatic 90, 3) := by decide +kernel
theorem dX9_isLabelSign_10 : decode cX9_isLabelSign 10 = .ok (.ifCond .ne 24, 3) := by decide +kernel
theorem dX9_isLabelSign_13 : decode cX9_isLabelSign 13 = .ok (.lload_n 0, 1) := by decide +kernel
theorem dX9_isLabelSign_14 : decode cX9_isLabelSign 14 = .ok (.ldc2_w 94, 3) := by decide +kernel
theorem dX9_isLabelSign_17 : decode cX9_isLabelSign 17 = .ok (.ldc2_w 96, 3) := by decide +kernel
theorem dX9_isLabelSign_20 : decode cX9_isLabelSign 20 = .ok (.invokestatic 90, 3) := by decide +kernel
theorem dX9_isLabelSign_23 : decode cX9_isLabelSign 23 = .ok (.ifCond .ne 11, 3) := by decide +kernel
theorem dX9_isLabelSign_26 : decode cX9_isLabelSign 26 = .ok (.lload_n 0, 1) := by decide +kernel
theorem dX9_isLabelSign_27 : decode cX9_isLabelSign 27 = .ok (.ldc2_w 98, 3) := by decide +kernel
theorem dX9_isLabelSign_30 : decode cX9_isLabelSign 30 = .ok (.lcmp, 1) := by decide +kernel
theorem dX9_isLabelSign_31 : decode cX9_isLabelSign 31 = .ok (.ifCond .ne 7, 3) := by decide +kernel
theorem dX9_isLabelSign_34 : decode cX9_isLabelSign 34 = .ok (.iconst 1, 1) := by decide +kernel
theorem dX9_isLabelSign_35 : decode cX9_isLabelSign 35 = .ok (.goto 4, 3) := by decide +kernel
theorem dX9_isLabelSign_38 : decode cX9_isLabelSign 38 = .ok (.iconst 0, 1) := by decide +kernel
theorem dX9_isLabelSign_39 : decode cX9_isLabelSign 39 = .ok (.ireturn, 1) := by decide +kernel
theorem dX9_isDomain_0 : decode cX9_isDomain 0 = .ok (.iload_n 2, 1) := by decide +kernel
theorem dX9_isDomain_1 : decode cX9_isDomain 1 = .ok (.i2l, 1) := by decide +kernel
theorem dX9_isDomain_2 : decode cX9_isDomain 2 = .ok (.lconst 1, 1) := by decide +kernel
theorem dX9_isDomain_3 : decode cX9_isDomain 3 = .ok (.ldc2_w 100, 3) := by decide +kernel
theorem dX9_isDomain_6 : decode cX9_isDomain 6 = .ok (.invokestatic 90, 3) := by decide +kernel
theorem dX9_isDomain_9 : decode cX9_isDomain 9 = .ok (.istore_n 3, 1) := by decide +kernel
theorem dX9_isDomain_10 : decode cX9_isDomain 10 = .ok (.iconst 0, 1) := by decide +kernel
theorem dX9_isDomain_11 : decode cX9_isDomain 11 = .ok (.istore 4, 2) := by decide +kernel
theorem dX9_isDomain_13 : decode cX9_isDomain 13 = .ok (.iload 4, 2) := by decide +kernel
theorem dX9_isDomain_15 : decode cX9_isDomain 15 = .ok (.iload_n 2, 1) := by decide +kernel
theorem dX9_isDomain_16 : decode cX9_isDomain 16 = .ok (.if_icmp .ge 93, 3) := by decide +kernel
theorem dX9_isDomain_19 : decode cX9_isDomain 19 = .ok (.iload_n 3, 1) := by decide +kernel
theorem dX9_isDomain_20 : decode cX9_isDomain 20 = .ok (.ifCond .eq 89, 3) := by decide +kernel
theorem dX9_isDomain_23 : decode cX9_isDomain 23 = .ok (.aload_n 0, 1) := by decide +kernel
theorem dX9_isDomain_24 : decode cX9_isDomain 24 = .ok (.getfield 7, 3) := by decide +kernel
theorem dX9_isDomain_27 : decode cX9_isDomain 27 = .ok (.iload_n 1, 1) := by decide +kernel
theorem dX9_isDomain_28 : decode cX9_isDomain 28 = .ok (.iload 4, 2) := by decide +kernel
theorem dX9_isDomain_30 : decode cX9_isDomain 30 = .ok (.iadd, 1) := by decide +kernel
theorem dX9_isDomain_31 : decode cX9_isDomain 31 = .ok (.laload, 1) := by decide +kernel
theorem dX9_isDomain_32 : decode cX9_isDomain 32 = .ok (.ldc2_w 102, 3) := by decide +kernel
theorem dX9_isDomain_35 : decode cX9_isDomain 35 = .ok (.lcmp, 1) := by decide +kernel
theorem dX9_isDomain_36 : decode cX9_isDomain 36 = .ok (.ifCond .ne 38, 3) := by decide +kernel
theorem dX9_isDomain_39 : decode cX9_isDomain 39 = .ok (.iload 4, 2) := by decide +kernel
theorem dX9_isDomain_41 : decode cX9_isDomain 41 = .ok (.ifCond .le 33, 3) := by decide +kernel
theorem dX9_isDomain_44 : decode cX9_isDomain 44 = .ok (.iload 4, 2) := by decide +kernel
theorem dX9_isDomain_46 : decode cX9_isDomain 46 = .ok (.iload_n 2, 1) := by decide +kernel
theorem dX9_isDomain_47 : decode cX9_isDomain 47 = .ok (.iconst 1, 1) := by decide +kernel
theorem dX9_isDomain_48 : decode cX9_isDomain 48 = .ok (.isub, 1) := by decide +kernel
theorem dX9_isDomain_49 : decode cX9_isDomain 49 = .ok (.if_icmp .ge 25, 3) := by decide +kernel
theorem dX9_isDomain_52 : decode cX9_isDomain 52 = .ok (.aload_n 0, 1) := by decide +kernel
theorem dX9_isDomain_53 : decode cX9_isDomain 53 = .ok (.getfield 7, 3) := by decide +kernel
theorem dX9_isDomain_56 : decode cX9_isDomain 56 = .ok (.iload_n 1, 1) := by decide +kernel
theorem dX9_isDomain_57 : decode cX9_isDomain 57 = .ok (.iload 4, 2) := by decide +kernel
theorem dX9_isDomain_59 : decode cX9_isDomain 59 = .ok (.iadd, 1) := by decide +kernel
theorem dX9_isDomain_60 : decode cX9_isDomain 60 = .ok (.iconst 1, 1) := by decide +kernel
theorem dX9_isDomain_61 : decode cX9_isDomain 61 = .ok (.isub, 1) := by decide +kernel
theorem dX9_isDomain_62 : decode cX9_isDomain 62 = .ok (.laload, 1) := by decide +kernel
theorem dX9_isDomain_63 : decode cX9_isDomain 63 = .ok (.ldc2_w 102, 3) := by decide +kernel
theorem dX9_isDomain_66 : decode cX9_isDomain 66 = .ok (.lcmp, 1) := by decide +kernel
theorem dX9_isDomain_67 : decode cX9_isDomain 67 = .ok (.ifCond .eq 7, 3) := by decide +kernel
theorem dX9_isDomain_70 : decode cX9_isDomain 70 = .ok (.iconst 1, 1) := by decide +kernel
theorem dX9_isDomain_71 : decode cX9_isDomain 71 = .ok (.goto 4, 3) := by decide +kernel
theorem dX9_isDomain_74 : decode cX9_isDomain 74 = .ok (.iconst 0, 1) := by decide +kernel
theorem dX9_isDomain_75 : decode cX9_isDomain 75 = .ok (.istore 5, 2) := by decide +kernel
theorem dX9_isDomain_77 : decode cX9_isDomain 77 = .ok (.iload 5, 2) := by decide +kernel
theorem dX9_isDomain_79 : decode cX9_isDomain 79 = .ok (.ifCond .ne 18, 3) := by decide +kernel
theorem dX9_isDomain_82 : decode cX9_isDomain 82 = .ok (.aload_n 0, 1) := by decide +kernel
theorem dX9_isDomain_83 : decode cX9_isDomain 83 = .ok (.getfield 7, 3) := by decide +kernel
theorem dX9_isDomain_86 : decode cX9_isDomain 86 = .ok (.iload_n 1, 1) := by decide +kernel
theorem dX9_isDomain_87 : decode cX9_isDomain 87 = .ok (.iload 4, 2) := by decide +kernel
theorem dX9_isDomain_89 : decode cX9_isDomain 89 = .ok (.iadd, 1) := by decide +kernel
theorem dX9_isDomain_90 : decode cX9_isDomain 90 = .ok (.laload, 1) := by decide +kernel
theorem dX9_isDomain_91 : decode cX9_isDomain 91 = .ok (.invokestatic 104, 3) := by decide +kernel
theorem dX9_isDomain_94 : decode cX9_isDomain 94 = .ok (.ifCond .eq 7, 3) := by decide +kernel
theorem dX9_isDomain_97 : decode cX9_isDomain 97 = .ok (.iconst 1, 1) := by decide +kernel
theorem dX9_isDomain_98 : decode cX9_isDomain 98 = .ok (.goto 4, 3) := by decide +kernel
theorem dX9_isDomain_101 : decode cX9_isDomain 101 = .ok (.iconst 0, 1) := by decide +kernel
theorem dX9_isDomain_102 : decode cX9_isDomain 102 = .ok (.istore_n 3, 1) := by decide +kernel
theorem dX9_isDomain_103 : decode cX9_isDomain 103 = .ok (.iinc 4 1, 3) := by decide +kernel
theorem dX9_isDomain_106 : decode cX9_isDomain 106 = .ok (.goto (-93), 3) := by decide +kernel
theorem dX9_isDomain_109 : decode cX9_isDomain 109 = .ok (.iload_n 3, 1) := by decide +kernel
theorem dX9_isDomain_110 : decode cX9_isDomain 110 = .ok (.ireturn, 1) := by decide +kernel
theorem dX9_matches_0 : decode cX9_matches 0 = .ok (.aload_n 0, 1) := by decide +kernel
theorem dX9_matches_1 : decode cX9_matches 1 = .ok (.iload_n 1, 1) := by decide +kernel
theorem dX9_matches_2 : decode cX9_matches 2 = .ok (.iload_n 2, 1) := by decide +kernel
theorem dX9_matches_3 : decode cX9_matches 3 = .ok (.iload_n 3, 1) := by decide +kernel
theorem dX9_matches_4 : decode cX9_matches 4 = .ok (.iload 4, 2) := by decide +kernel
theorem dX9_matches_6 : decode cX9_matches 6 = .ok (.invokevirtual 108, 3) := by decide +kernel
theorem dX9_matches_9 : decode cX9_matches 9 = .ok (.ifCond .ne 47, 3) := by decide +kernel
theorem dX9_matches_12 : decode cX9_matches 12 = .ok (.iload_n 2, 1) := by decide +kernel
theorem dX9_matches_13 : decode cX9_matches 13 = .ok (.iload 4, 2) := by decide +kernel
theorem dX9_matches_15 : decode cX9_matches 15 = .ok (.if_icmp .le 45, 3) := by decide +kernel
theorem dX9_matches_18 : decode cX9_matches 18 = .ok (.aload_n 0, 1) := by decide +kernel
theorem dX9_matches_19 : decode cX9_matches 19 = .ok (.getfield 7, 3) := by decide +kernel
theorem dX9_matches_22 : decode cX9_matches 22 = .ok (.iload_n 1, 1) := by decide +kernel
theorem dX9_matches_23 : decode cX9_matches 23 = .ok (.iload_n 2, 1) := by decide +kernel
theorem dX9_matches_24 : decode cX9_matches 24 = .ok (.iadd, 1) := by decide +kernel
theorem dX9_matches_25 : decode cX9_matches 25 = .ok (.iload 4, 2) := by decide +kernel
theorem dX9_matches_27 : decode cX9_matches 27 = .ok (.isub, 1) := by decide +kernel
theorem dX9_matches_28 : decode cX9_matches 28 = .ok (.iconst 1, 1) := by decide +kernel
theorem dX9_matches_29 : decode cX9_matches 29 = .ok (.isub, 1) := by decide +kernel
theorem dX9_matches_30 : decode cX9_matches 30 = .ok (.laload, 1) := by decide +kernel
theorem dX9_matches_31 : decode cX9_matches 31 = .ok (.ldc2_w 102, 3) := by decide +kernel
theorem dX9_matches_34 : decode cX9_matches 34 = .ok (.lcmp, 1) := by decide +kernel
theorem dX9_matches_35 : decode cX9_matches 35 = .ok (.ifCond .ne 25, 3) := by decide +kernel
theorem dX9_matches_38 : decode cX9_matches 38 = .ok (.aload_n 0, 1) := by decide +kernel
theorem dX9_matches_39 : decode cX9_matches 39 = .ok (.iload_n 1, 1) := by decide +kernel
theorem dX9_matches_40 : decode cX9_matches 40 = .ok (.iload_n 2, 1) := by decide +kernel
theorem dX9_matches_41 : decode cX9_matches 41 = .ok (.iadd, 1) := by decide +kernel
theorem dX9_matches_42 : decode cX9_matches 42 = .ok (.iload 4, 2) := by decide +kernel
theorem dX9_matches_44 : decode cX9_matches 44 = .ok (.isub, 1) := by decide +kernel
theorem dX9_matches_45 : decode cX9_matches 45 = .ok (.iload 4, 2) := by decide +kernel
theorem dX9_matches_47 : decode cX9_matches 47 = .ok (.iload_n 3, 1) := by decide +kernel
theorem dX9_matches_48 : decode cX9_matches 48 = .ok (.iload 4, 2) := by decide +kernel
theorem dX9_matches_50 : decode cX9_matches 50 = .ok (.invokevirtual 108, 3) := by decide +kernel
theorem dX9_matches_53 : decode cX9_matches 53 = .ok (.ifCond .eq 7, 3) := by decide +kernel
theorem dX9_matches_56 : decode cX9_matches 56 = .ok (.iconst 1, 1) := by decide +kernel
theorem dX9_matches_57 : decode cX9_matches 57 = .ok (.goto 4, 3) := by decide +kernel
theorem dX9_matches_60 : decode cX9_matches 60 = .ok (.iconst 0, 1) := by decide +kernel
theorem dX9_matches_61 : decode cX9_matches 61 = .ok (.ireturn, 1) := by decide +kernel
theorem dX9_labelFrom_0 : decode cX9_labelFrom 0 = .ok (.iload_n 2, 1) := by decide +kernel
theorem dX9_labelFrom_1 : decode cX9_labelFrom 1 = .ok (.istore_n 3, 1) := by decide +kernel
theorem dX9_labelFrom_2 : decode cX9_labelFrom 2 = .ok (.iload_n 3, 1) := by decide +kernel
theorem dX9_labelFrom_3 : decode cX9_labelFrom 3 = .ok (.ifCond .le 26, 3) := by decide +kernel
theorem dX9_labelFrom_6 : decode cX9_labelFrom 6 = .ok (.aload_n 0, 1) := by decide +kernel
theorem dX9_labelFrom_7 : decode cX9_labelFrom 7 = .ok (.getfield 7, 3) := by decide +kernel
theorem dX9_labelFrom_10 : decode cX9_labelFrom 10 = .ok (.iload_n 1, 1) := by decide +kernel
theorem dX9_labelFrom_11 : decode cX9_labelFrom 11 = .ok (.iload_n 3, 1) := by decide +kernel
theorem dX9_labelFrom_12 : decode cX9_labelFrom 12 = .ok (.iadd, 1) := by decide +kernel
theorem dX9_labelFrom_13 : decode cX9_labelFrom 13 = .ok (.iconst 1, 1) := by decide +kernel
theorem dX9_labelFrom_14 : decode cX9_labelFrom 14 = .ok (.isub, 1) := by decide +kernel
theorem dX9_labelFrom_15 : decode cX9_labelFrom 15 = .ok (.laload, 1) := by decide +kernel
theorem dX9_labelFrom_16 : decode cX9_labelFrom 16 = .ok (.ldc2_w 102, 3) := by decide +kernel
theorem dX9_labelFrom_19 : decode cX9_labelFrom 19 = .ok (.lcmp, 1) := by decide +kernel
theorem dX9_labelFrom_20 : decode cX9_labelFrom 20 = .ok (.ifCond .eq 9, 3) := by decide +kernel
theorem dX9_labelFrom_23 : decode cX9_labelFrom 23 = .ok (.iinc 3 (-1), 3) := by decide +kernel
theorem dX9_labelFrom_26 : decode cX9_labelFrom 26 = .ok (.goto (-24), 3) := by decide +kernel
theorem dX9_labelFrom_29 : decode cX9_labelFrom 29 = .ok (.iload_n 3, 1) := by decide +kernel
theorem dX9_labelFrom_30 : decode cX9_labelFrom 30 = .ok (.ireturn, 1) := by decide +kernel
theorem dX9_suffixLong_0 : decode cX9_suffixLong 0 = .ok (.iconst 0, 1) := by decide +kernel
theorem dX9_suffixLong_1 : decode cX9_suffixLong 1 = .ok (.istore_n 3, 1) := by decide +kernel
theorem dX9_suffixLong_2 : decode cX9_suffixLong 2 = .ok (.iconst 0, 1) := by decide +kernel
theorem dX9_suffixLong_3 : decode cX9_suffixLong 3 = .ok (.istore 4, 2) := by decide +kernel
theorem dX9_suffixLong_5 : decode cX9_suffixLong 5 = .ok (.iload 4, 2) := by decide +kernel
theorem dX9_suffixLong_7 : decode cX9_suffixLong 7 = .ok (.i2l, 1) := by decide +kernel
theorem dX9_suffixLong_8 : decode cX9_suffixLong 8 = .ok (.aload_n 0, 1) := by decide +kernel
theorem dX9_suffixLong_9 : decode cX9_suffixLong 9 = .ok (.getfield 7, 3) := by decide +kernel
theorem dX9_suffixLong_12 : decode cX9_suffixLong 12 = .ok (.bipush 6, 2) := by decide +kernel
theorem dX9_suffixLong_14 : decode cX9_suffixLong 14 = .ok (.laload, 1) := by decide +kernel
theorem dX9_suffixLong_15 : decode cX9_suffixLong 15 = .ok (.lcmp, 1) := by decide +kernel
theorem dX9_suffixLong_16 : decode cX9_suffixLong 16 = .ok (.ifCond .ge 58, 3) := by decide +kernel
theorem dX9_suffixLong_19 : decode cX9_suffixLong 19 = .ok (.sipush 180, 3) := by decide +kernel
theorem dX9_suffixLong_22 : decode cX9_suffixLong 22 = .ok (.bipush 32, 2) := by decide +kernel
theorem dX9_suffixLong_24 : decode cX9_suffixLong 24 = .ok (.iload 4, 2) := by decide +kernel
theorem dX9_suffixLong_26 : decode cX9_suffixLong 26 = .ok (.imul, 1) := by decide +kernel
theorem dX9_suffixLong_27 : decode cX9_suffixLong 27 = .ok (.iadd, 1) := by decide +kernel
theorem dX9_suffixLong_28 : decode cX9_suffixLong 28 = .ok (.istore 5, 2) := by decide +kernel
theorem dX9_suffixLong_30 : decode cX9_suffixLong 30 = .ok (.aload_n 0, 1) := by decide +kernel
theorem dX9_suffixLong_31 : decode cX9_suffixLong 31 = .ok (.getfield 7, 3) := by decide +kernel
theorem dX9_suffixLong_34 : decode cX9_suffixLong 34 = .ok (.iload 5, 2) := by decide +kernel
theorem dX9_suffixLong_36 : decode cX9_suffixLong 36 = .ok (.laload, 1) := by decide +kernel
theorem dX9_suffixLong_37 : decode cX9_suffixLong 37 = .ok (.l2i, 1) := by decide +kernel
theorem dX9_suffixLong_38 : decode cX9_suffixLong 38 = .ok (.istore 6, 2) := by decide +kernel
theorem dX9_suffixLong_40 : decode cX9_suffixLong 40 = .ok (.iload 6, 2) := by decide +kernel
theorem dX9_suffixLong_42 : decode cX9_suffixLong 42 = .ok (.iload_n 3, 1) := by decide +kernel
theorem dX9_suffixLong_43 : decode cX9_suffixLong 43 = .ok (.if_icmp .le 23, 3) := by decide +kernel
theorem dX9_suffixLong_46 : decode cX9_suffixLong 46 = .ok (.aload_n 0, 1) := by decide +kernel
theorem dX9_suffixLong_47 : decode cX9_suffixLong 47 = .ok (.iload_n 1, 1) := by decide +kernel
theorem dX9_suffixLong_48 : decode cX9_suffixLong 48 = .ok (.iload_n 2, 1) := by decide +kernel
theorem dX9_suffixLong_49 : decode cX9_suffixLong 49 = .ok (.iload 5, 2) := by decide +kernel
theorem dX9_suffixLong_51 : decode cX9_suffixLong 51 = .ok (.iconst 1, 1) := by decide +kernel
theorem dX9_suffixLong_52 : decode cX9_suffixLong 52 = .ok (.iadd, 1) := by decide +kernel
theorem dX9_suffixLong_53 : decode cX9_suffixLong 53 = .ok (.iload 6, 2) := by decide +kernel
theorem dX9_suffixLong_55 : decode cX9_suffixLong 55 = .ok (.invokevirtual 112, 3) := by decide +kernel
theorem dX9_suffixLong_58 : decode cX9_suffixLong 58 = .ok (.ifCond .eq 8, 3) := by decide +kernel
theorem dX9_suffixLong_61 : decode cX9_suffixLong 61 = .ok (.iload 6, 2) := by decide +kernel
theorem dX9_suffixLong_63 : decode cX9_suffixLong 63 = .ok (.goto 4, 3) := by decide +kernel
theorem dX9_suffixLong_66 : decode cX9_suffixLong 66 = .ok (.iload_n 3, 1) := by decide +kernel
theorem dX9_suffixLong_67 : decode cX9_suffixLong 67 = .ok (.istore_n 3, 1) := by decide +kernel
theorem dX9_suffixLong_68 : decode cX9_suffixLong 68 = .ok (.iinc 4 1, 3) := by decide +kernel
theorem dX9_suffixLong_71 : decode cX9_suffixLong 71 = .ok (.goto (-66), 3) := by decide +kernel
theorem dX9_suffixLong_74 : decode cX9_suffixLong 74 = .ok (.iload_n 3, 1) := by decide +kernel
theorem dX9_suffixLong_75 : decode cX9_suffixLong 75 = .ok (.ifCond .le 7, 3) := by decide +kernel
theorem dX9_suffixLong_78 : decode cX9_suffixLong 78 = .ok (.iload_n 3, 1) := by decide +kernel
theorem dX9_suffixLong_79 : decode cX9_suffixLong 79 = .ok (.goto 11, 3) := by decide +kernel
theorem dX9_suffixLong_82 : decode cX9_suffixLong 82 = .ok (.iload_n 2, 1) := by decide +kernel
theorem dX9_suffixLong_83 : decode cX9_suffixLong 83 = .ok (.aload_n 0, 1) := by decide +kernel
theorem dX9_suffixLong_84 : decode cX9_suffixLong 84 = .ok (.iload_n 1, 1) := by decide +kernel
theorem dX9_suffixLong_85 : decode cX9_suffixLong 85 = .ok (.iload_n 2, 1) := by decide +kernel
theorem dX9_suffixLong_86 : decode cX9_suffixLong 86 = .ok (.invokevirtual 115, 3) := by decide +kernel
theorem dX9_suffixLong_89 : decode cX9_suffixLong 89 = .ok (.isub, 1) := by decide +kernel
theorem dX9_suffixLong_90 : decode cX9_suffixLong 90 = .ok (.ireturn, 1) := by decide +kernel
theorem dX9_isPublic_0 : decode cX9_isPublic 0 = .ok (.aload_n 0, 1) := by decide +kernel
theorem dX9_isPublic_1 : decode cX9_isPublic 1 = .ok (.iload_n 1, 1) := by decide +kernel
theorem dX9_isPublic_2 : decode cX9_isPublic 2 = .ok (.iload_n 2, 1) := by decide +kernel
theorem dX9_isPublic_3 : decode cX9_isPublic 3 = .ok (.invokevirtual 119, 3) := by decide +kernel
theorem dX9_isPublic_6 : decode cX9_isPublic 6 = .ok (.ifCond .eq 17, 3) := by decide +kernel
theorem dX9_isPublic_9 : decode cX9_isPublic 9 = .ok (.aload_n 0, 1) := by decide +kernel
theorem dX9_isPublic_10 : decode cX9_isPublic 10 = .ok (.iload_n 1, 1) := by decide +kernel
theorem dX9_isPublic_11 : decode cX9_isPublic 11 = .ok (.iload_n 2, 1) := by decide +kernel
theorem dX9_isPublic_12 : decode cX9_isPublic 12 = .ok (.invokevirtual 123, 3) := by decide +kernel
theorem dX9_isPublic_15 : decode cX9_isPublic 15 = .ok (.iload_n 2, 1) := by decide +kernel
theorem dX9_isPublic_16 : decode cX9_isPublic 16 = .ok (.if_icmp .ne 7, 3) := by decide +kernel
theorem dX9_isPublic_19 : decode cX9_isPublic 19 = .ok (.iconst 1, 1) := by decide +kernel
theorem dX9_isPublic_20 : decode cX9_isPublic 20 = .ok (.goto 4, 3) := by decide +kernel
theorem dX9_isPublic_23 : decode cX9_isPublic 23 = .ok (.iconst 0, 1) := by decide +kernel
theorem dX9_isPublic_24 : decode cX9_isPublic 24 = .ok (.ireturn, 1) := by decide +kernel
theorem dX9_siteFrom_0 : decode cX9_siteFrom 0 = .ok (.aload_n 0, 1) := by decide +kernel
theorem dX9_siteFrom_1 : decode cX9_siteFrom 1 = .ok (.iload_n 1, 1) := by decide +kernel
theorem dX9_siteFrom_2 : decode cX9_siteFrom 2 = .ok (.iload_n 2, 1) := by decide +kernel
theorem dX9_siteFrom_3 : decode cX9_siteFrom 3 = .ok (.invokevirtual 123, 3) := by decide +kernel
theorem dX9_siteFrom_6 : decode cX9_siteFrom 6 = .ok (.istore_n 3, 1) := by decide +kernel
theorem dX9_siteFrom_7 : decode cX9_siteFrom 7 = .ok (.iload_n 3, 1) := by decide +kernel
theorem dX9_siteFrom_8 : decode cX9_siteFrom 8 = .ok (.iload_n 2, 1) := by decide +kernel
theorem dX9_siteFrom_9 : decode cX9_siteFrom 9 = .ok (.if_icmp .ne 7, 3) := by decide +kernel
theorem dX9_siteFrom_12 : decode cX9_siteFrom 12 = .ok (.iconst 0, 1) := by decide +kernel
theorem dX9_siteFrom_13 : decode cX9_siteFrom 13 = .ok (.goto 13, 3) := by decide +kernel
theorem dX9_siteFrom_16 : decode cX9_siteFrom 16 = .ok (.aload_n 0, 1) := by decide +kernel
theorem dX9_siteFrom_17 : decode cX9_siteFrom 17 = .ok (.iload_n 1, 1) := by decide +kernel
theorem dX9_siteFrom_18 : decode cX9_siteFrom 18 = .ok (.iload_n 2, 1) := by decide +kernel
theorem dX9_siteFrom_19 : decode cX9_siteFrom 19 = .ok (.iload_n 3, 1) := by decide +kernel
theorem dX9_siteFrom_20 : decode cX9_siteFrom 20 = .ok (.isub, 1) := by decide +kernel
theorem dX9_siteFrom_21 : decode cX9_siteFrom 21 = .ok (.iconst 1, 1) := by decide +kernel
theorem dX9_siteFrom_22 : decode cX9_siteFrom 22 = .ok (.isub, 1) := by decide +kernel
theorem dX9_siteFrom_23 : decode cX9_siteFrom 23 = .ok (.invokevirtual 115, 3) := by decide +kernel
theorem dX9_siteFrom_26 : decode cX9_siteFrom 26 = .ok (.ireturn, 1) := by decide +kernel
theorem dX9_areOneSite_0 : decode cX9_areOneSite 0 = .ok (.aload_n 0, 1) := by decide +kernel
theorem dX9_areOneSite_1 : decode cX9_areOneSite 1 = .ok (.iload_n 1, 1) := by decide +kernel
theorem dX9_areOneSite_2 : decode cX9_areOneSite 2 = .ok (.iload_n 2, 1) := by decide +kernel
theorem dX9_areOneSite_3 : decode cX9_areOneSite 3 = .ok (.invokevirtual 126, 3) := by decide +kernel
theorem dX9_areOneSite_6 : decode cX9_areOneSite 6 = .ok (.istore 5, 2) := by decide +kernel
theorem dX9_areOneSite_8 : decode cX9_areOneSite 8 = .ok (.aload_n 0, 1) := by decide +kernel
theorem dX9_areOneSite_9 : decode cX9_areOneSite 9 = .ok (.iload_n 3, 1) := by decide +kernel
theorem dX9_areOneSite_10 : decode cX9_areOneSite 10 = .ok (.iload 4, 2) := by decide +kernel
theorem dX9_areOneSite_12 : decode cX9_areOneSite 12 = .ok (.invokevirtual 126, 3) := by decide +kernel
theorem dX9_areOneSite_15 : decode cX9_areOneSite 15 = .ok (.istore 6, 2) := by decide +kernel
theorem dX9_areOneSite_17 : decode cX9_areOneSite 17 = .ok (.aload_n 0, 1) := by decide +kernel
theorem dX9_areOneSite_18 : decode cX9_areOneSite 18 = .ok (.iload_n 1, 1) := by decide +kernel
theorem dX9_areOneSite_19 : decode cX9_areOneSite 19 = .ok (.iload 5, 2) := by decide +kernel
theorem dX9_areOneSite_21 : decode cX9_areOneSite 21 = .ok (.iadd, 1) := by decide +kernel
theorem dX9_areOneSite_22 : decode cX9_areOneSite 22 = .ok (.iload_n 2, 1) := by decide +kernel
theorem dX9_areOneSite_23 : decode cX9_areOneSite 23 = .ok (.iload 5, 2) := by decide +kernel
theorem dX9_areOneSite_25 : decode cX9_areOneSite 25 = .ok (.isub, 1) := by decide +kernel
theorem dX9_areOneSite_26 : decode cX9_areOneSite 26 = .ok (.iload_n 3, 1) := by decide +kernel
theorem dX9_areOneSite_27 : decode cX9_areOneSite 27 = .ok (.iload 6, 2) := by decide +kernel
theorem dX9_areOneSite_29 : decode cX9_areOneSite 29 = .ok (.iadd, 1) := by decide +kernel
theorem dX9_areOneSite_30 : decode cX9_areOneSite 30 = .ok (.iload 4, 2) := by decide +kernel
theorem dX9_areOneSite_32 : decode cX9_areOneSite 32 = .ok (.iload 6, 2) := by decide +kernel
theorem dX9_areOneSite_34 : decode cX9_areOneSite 34 = .ok (.isub, 1) := by decide +kernel
theorem dX9_areOneSite_35 : decode cX9_areOneSite 35 = .ok (.invokevirtual 108, 3) := by decide +kernel
theorem dX9_areOneSite_38 : decode cX9_areOneSite 38 = .ok (.ireturn, 1) := by decide +kernel
theorem dX9_orderedDomains_0 : decode cX9_orderedDomains 0 = .ok (.iload_n 2, 1) := by decide +kernel
theorem dX9_orderedDomains_1 : decode cX9_orderedDomains 1 = .ok (.istore 5, 2) := by decide +kernel
theorem dX9_orderedDomains_3 : decode cX9_orderedDomains 3 = .ok (.iload 4, 2) := by decide +kernel
theorem dX9_orderedDomains_5 : decode cX9_orderedDomains 5 = .ok (.istore 6, 2) := by decide +kernel
theorem dX9_orderedDomains_7 : decode cX9_orderedDomains 7 = .ok (.iconst 0, 1) := by decide +kernel
theorem dX9_orderedDomains_8 : decode cX9_orderedDomains 8 = .ok (.istore 7, 2) := by decide +kernel
theorem dX9_orderedDomains_10 : decode cX9_orderedDomains 10 = .ok (.iload 7, 2) := by decide +kernel
theorem dX9_orderedDomains_12 : decode cX9_orderedDomains 12 = .ok (.bipush 31, 2) := by decide +kernel
theorem dX9_orderedDomains_14 : decode cX9_orderedDomains 14 = .ok (.if_icmp .ge 106, 3) := by decide +kernel
theorem dX9_orderedDomains_17 : decode cX9_orderedDomains 17 = .ok (.iload 5, 2) := by decide +kernel
theorem dX9_orderedDomains_19 : decode cX9_orderedDomains 19 = .ok (.ifCond .lt 8, 3) := by decide +kernel
theorem dX9_orderedDomains_22 : decode cX9_orderedDomains 22 = .ok (.iload 6, 2) := by decide +kernel
theorem dX9_orderedDomains_24 : decode cX9_orderedDomains 24 = .ok (.ifCond .ge 28, 3) := by decide +kernel
theorem dX9_orderedDomains_27 : decode cX9_orderedDomains 27 = .ok (.iload 5, 2) := by decide +kernel
theorem dX9_orderedDomains_29 : decode cX9_orderedDomains 29 = .ok (.ifCond .ge 12, 3) := by decide +kernel
theorem dX9_orderedDomains_32 : decode cX9_orderedDomains 32 = .ok (.iload 6, 2) := by decide +kernel
theorem dX9_orderedDomains_34 : decode cX9_orderedDomains 34 = .ok (.ifCond .ge 7, 3) := by decide +kernel
theorem dX9_orderedDomains_37 : decode cX9_orderedDomains 37 = .ok (.iconst 0, 1) := by decide +kernel
theorem dX9_orderedDomains_38 : decode cX9_orderedDomains 38 = .ok (.goto 13, 3) := by decide +kernel
theorem dX9_orderedDomains_41 : decode cX9_orderedDomains 41 = .ok (.iload 5, 2) := by decide +kernel
theorem dX9_orderedDomains_43 : decode cX9_orderedDomains 43 = .ok (.ifCond .ge 7, 3) := by decide +kernel
theorem dX9_orderedDomains_46 : decode cX9_orderedDomains 46 = .ok (.iconst (-1), 1) := by decide +kernel
theorem dX9_orderedDomains_47 : decode cX9_orderedDomains 47 = .ok (.goto 4, 3) := by decide +kernel
theorem dX9_orderedDomains_50 : decode cX9_orderedDomains 50 = .ok (.iconst 1, 1) := by decide +kernel
theorem dX9_orderedDomains_51 : decode cX9_orderedDomains 51 = .ok (.ireturn, 1) := by decide +kernel
theorem dX9_orderedDomains_52 : decode cX9_orderedDomains 52 = .ok (.aload_n 0, 1) := by decide +kernel
theorem dX9_orderedDomains_53 : decode cX9_orderedDomains 53 = .ok (.iload_n 1, 1) := by decide +kernel
theorem dX9_orderedDomains_54 : decode cX9_orderedDomains 54 = .ok (.iload 5, 2) := by decide +kernel
theorem dX9_orderedDomains_56 : decode cX9_orderedDomains 56 = .ok (.invokevirtual 115, 3) := by decide +kernel
theorem dX9_orderedDomains_59 : decode cX9_orderedDomains 59 = .ok (.istore 8, 2) := by decide +kernel
theorem dX9_orderedDomains_61 : decode cX9_orderedDomains 61 = .ok (.aload_n 0, 1) := by decide +kernel
theorem dX9_orderedDomains_62 : decode cX9_orderedDomains 62 = .ok (.iload_n 3, 1) := by decide +kernel
theorem dX9_orderedDomains_63 : decode cX9_orderedDomains 63 = .ok (.iload 6, 2) := by decide +kernel
theorem dX9_orderedDomains_65 : decode cX9_orderedDomains 65 = .ok (.invokevirtual 115, 3) := by decide +kernel
theorem dX9_orderedDomains_68 : decode cX9_orderedDomains 68 = .ok (.istore 9, 2) := by decide +kernel
theorem dX9_orderedDomains_70 : decode cX9_orderedDomains 70 = .ok (.aload_n 0, 1) := by decide +kernel
theorem dX9_orderedDomains_71 : decode cX9_orderedDomains 71 = .ok (.iload_n 1, 1) := by decide +kernel
theorem dX9_orderedDomains_72 : decode cX9_orderedDomains 72 = .ok (.iload 8, 2) := by decide +kernel
theorem dX9_orderedDomains_74 : decode cX9_orderedDomains 74 = .ok (.iadd, 1) := by decide +kernel
theorem dX9_orderedDomains_75 : decode cX9_orderedDomains 75 = .ok (.iload 5, 2) := by decide +kernel
theorem dX9_orderedDomains_77 : decode cX9_orderedDomains 77 = .ok (.iload 8, 2) := by decide +kernel
theorem dX9_orderedDomains_79 : decode cX9_orderedDomains 79 = .ok (.isub, 1) := by decide +kernel
theorem dX9_orderedDomains_80 : decode cX9_orderedDomains 80 = .ok (.iload_n 3, 1) := by decide +kernel
theorem dX9_orderedDomains_81 : decode cX9_orderedDomains 81 = .ok (.iload 9, 2) := by decide +kernel
theorem dX9_orderedDomains_83 : decode cX9_orderedDomains 83 = .ok (.iadd, 1) := by decide +kernel
theorem dX9_orderedDomains_84 : decode cX9_orderedDomains 84 = .ok (.iload 6, 2) := by decide +kernel
theorem dX9_orderedDomains_86 : decode cX9_orderedDomains 86 = .ok (.iload 9, 2) := by decide +kernel
theorem dX9_orderedDomains_88 : decode cX9_orderedDomains 88 = .ok (.isub, 1) := by decide +kernel
theorem dX9_orderedDomains_89 : decode cX9_orderedDomains 89 = .ok (.invokevirtual 129, 3) := by decide +kernel
theorem dX9_orderedDomains_92 : decode cX9_orderedDomains 92 = .ok (.istore 10, 2) := by decide +kernel
theorem dX9_orderedDomains_94 : decode cX9_orderedDomains 94 = .ok (.iload 10, 2) := by decide +kernel
theorem dX9_orderedDomains_96 : decode cX9_orderedDomains 96 = .ok (.ifCond .eq 6, 3) := by decide +kernel
theorem dX9_orderedDomains_99 : decode cX9_orderedDomains 99 = .ok (.iload 10, 2) := by decide +kernel
theorem dX9_orderedDomains_101 : decode cX9_orderedDomains 101 = .ok (.ireturn, 1) := by decide +kernel
theorem dX9_orderedDomains_102 : decode cX9_orderedDomains 102 = .ok (.iload 8, 2) := by decide +kernel
theorem dX9_orderedDomains_104 : decode cX9_orderedDomains 104 = .ok (.iconst 1, 1) := by decide +kernel
theorem dX9_orderedDomains_105 : decode cX9_orderedDomains 105 = .ok (.isub, 1) := by decide +kernel
theorem dX9_orderedDomains_106 : decode cX9_orderedDomains 106 = .ok (.istore 5, 2) := by decide +kernel
theorem dX9_orderedDomains_108 : decode cX9_orderedDomains 108 = .ok (.iload 9, 2) := by decide +kernel
theorem dX9_orderedDomains_110 : decode cX9_orderedDomains 110 = .ok (.iconst 1, 1) := by decide +kernel
theorem dX9_orderedDomains_111 : decode cX9_orderedDomains 111 = .ok (.isub, 1) := by decide +kernel
theorem dX9_orderedDomains_112 : decode cX9_orderedDomains 112 = .ok (.istore 6, 2) := by decide +kernel
theorem dX9_orderedDomains_114 : decode cX9_orderedDomains 114 = .ok (.iinc 7 1, 3) := by decide +kernel
theorem dX9_orderedDomains_117 : decode cX9_orderedDomains 117 = .ok (.goto (-107), 3) := by decide +kernel
theorem dX9_orderedDomains_120 : decode cX9_orderedDomains 120 = .ok (.iconst 0, 1) := by decide +kernel
theorem dX9_orderedDomains_121 : decode cX9_orderedDomains 121 = .ok (.ireturn, 1) := by decide +kernel
theorem dX9_sign_0 : decode cX9_sign 0 = .ok (.iload_n 1, 1) := by decide +kernel
theorem dX9_sign_1 : decode cX9_sign 1 = .ok (.aload_n 0, 1) := by decide +kernel
theorem dX9_sign_2 : decode cX9_sign 2 = .ok (.getfield 133, 3) := by decide +kernel
theorem dX9_sign_5 : decode cX9_sign 5 = .ok (.if_icmp .ge 16, 3) := by decide +kernel
theorem dX9_sign_8 : decode cX9_sign 8 = .ok (.aload_n 0, 1) := by decide +kernel
theorem dX9_sign_9 : decode cX9_sign 9 = .ok (.getfield 7, 3) := by decide +kernel
theorem dX9_sign_12 : decode cX9_sign 12 = .ok (.sipush 8400, 3) := by decide +kernel
theorem dX9_sign_15 : decode cX9_sign 15 = .ok (.iload_n 1, 1) := by decide +kernel
theorem dX9_sign_16 : decode cX9_sign 16 = .ok (.iadd, 1) := by decide +kernel
theorem dX9_sign_17 : decode cX9_sign 17 = .ok (.laload, 1) := by decide +kernel
theorem dX9_sign_18 : decode cX9_sign 18 = .ok (.goto 6, 3) := by decide +kernel
theorem dX9_sign_21 : decode cX9_sign 21 = .ok (.ldc2_w 136, 3) := by decide +kernel
theorem dX9_sign_24 : decode cX9_sign 24 = .ok (.lreturn, 1) := by decide +kernel
theorem dX9_readsAddress_0 : decode cX9_readsAddress 0 = .ok (.iconst 0, 1) := by decide +kernel
theorem dX9_readsAddress_1 : decode cX9_readsAddress 1 = .ok (.istore_n 2, 1) := by decide +kernel
theorem dX9_readsAddress_2 : decode cX9_readsAddress 2 = .ok (.iconst 0, 1) := by decide +kernel
theorem dX9_readsAddress_3 : decode cX9_readsAddress 3 = .ok (.istore_n 3, 1) := by decide +kernel
theorem dX9_readsAddress_4 : decode cX9_readsAddress 4 = .ok (.iload_n 3, 1) := by decide +kernel
theorem dX9_readsAddress_5 : decode cX9_readsAddress 5 = .ok (.iconst 4, 1) := by decide +kernel
theorem dX9_readsAddress_6 : decode cX9_readsAddress 6 = .ok (.if_icmp .ge 30, 3) := by decide +kernel
theorem dX9_readsAddress_9 : decode cX9_readsAddress 9 = .ok (.aload_n 0, 1) := by decide +kernel
theorem dX9_readsAddress_10 : decode cX9_readsAddress 10 = .ok (.iload_n 2, 1) := by decide +kernel
theorem dX9_readsAddress_11 : decode cX9_readsAddress 11 = .ok (.invokevirtual 138, 3) := by decide +kernel
theorem dX9_readsAddress_14 : decode cX9_readsAddress 14 = .ok (.aload_n 0, 1) := by decide +kernel
theorem dX9_readsAddress_15 : decode cX9_readsAddress 15 = .ok (.getfield 20, 3) := by decide +kernel
theorem dX9_readsAddress_18 : decode cX9_readsAddress 18 = .ok (.iload_n 3, 1) := by decide +kernel
theorem dX9_readsAddress_19 : decode cX9_readsAddress 19 = .ok (.caload, 1) := by decide +kernel
theorem dX9_readsAddress_20 : decode cX9_readsAddress 20 = .ok (.i2l, 1) := by decide +kernel
theorem dX9_readsAddress_21 : decode cX9_readsAddress 21 = .ok (.lcmp, 1) := by decide +kernel
theorem dX9_readsAddress_22 : decode cX9_readsAddress 22 = .ok (.ifCond .eq 5, 3) := by decide +kernel
theorem dX9_readsAddress_25 : decode cX9_readsAddress 25 = .ok (.iload_n 2, 1) := by decide +kernel
theorem dX9_readsAddress_26 : decode cX9_readsAddress 26 = .ok (.ireturn, 1) := by decide +kernel
theorem dX9_readsAddress_27 : decode cX9_readsAddress 27 = .ok (.iinc 2 1, 3) := by decide +kernel
theorem dX9_readsAddress_30 : decode cX9_readsAddress 30 = .ok (.iinc 3 1, 3) := by decide +kernel
theorem dX9_readsAddress_33 : decode cX9_readsAddress 33 = .ok (.goto (-29), 3) := by decide +kernel
theorem dX9_readsAddress_36 : decode cX9_readsAddress 36 = .ok (.aload_n 0, 1) := by decide +kernel
theorem dX9_readsAddress_37 : decode cX9_readsAddress 37 = .ok (.iload_n 2, 1) := by decide +kernel
theorem dX9_readsAddress_38 : decode cX9_readsAddress 38 = .ok (.invokevirtual 138, 3) := by decide +kernel
theorem dX9_readsAddress_41 : decode cX9_readsAddress 41 = .ok (.ldc2_w 142, 3) := by decide +kernel
theorem dX9_readsAddress_44 : decode cX9_readsAddress 44 = .ok (.lcmp, 1) := by decide +kernel
theorem dX9_readsAddress_45 : decode cX9_readsAddress 45 = .ok (.ifCond .ne 7, 3) := by decide +kernel
theorem dX9_readsAddress_48 : decode cX9_readsAddress 48 = .ok (.iconst 1, 1) := by decide +kernel
theorem dX9_readsAddress_49 : decode cX9_readsAddress 49 = .ok (.goto 4, 3) := by decide +kernel
theorem dX9_readsAddress_52 : decode cX9_readsAddress 52 = .ok (.iconst 0, 1) := by decide +kernel
theorem dX9_readsAddress_53 : decode cX9_readsAddress 53 = .ok (.istore_n 3, 1) := by decide +kernel
theorem dX9_readsAddress_54 : decode cX9_readsAddress 54 = .ok (.iload_n 2, 1) := by decide +kernel
theorem dX9_readsAddress_55 : decode cX9_readsAddress 55 = .ok (.iload_n 3, 1) := by decide +kernel
theorem dX9_readsAddress_56 : decode cX9_readsAddress 56 = .ok (.ifCond .eq 7, 3) := by decide +kernel
theorem dX9_readsAddress_59 : decode cX9_readsAddress 59 = .ok (.iconst 1, 1) := by decide +kernel
theorem dX9_readsAddress_60 : decode cX9_readsAddress 60 = .ok (.goto 4, 3) := by decide +kernel
theorem dX9_readsAddress_63 : decode cX9_readsAddress 63 = .ok (.iconst 0, 1) := by decide +kernel
theorem dX9_readsAddress_64 : decode cX9_readsAddress 64 = .ok (.iadd, 1) := by decide +kernel
theorem dX9_readsAddress_65 : decode cX9_readsAddress 65 = .ok (.istore_n 2, 1) := by decide +kernel
theorem dX9_readsAddress_66 : decode cX9_readsAddress 66 = .ok (.iconst 0, 1) := by decide +kernel
theorem dX9_readsAddress_67 : decode cX9_readsAddress 67 = .ok (.istore 4, 2) := by decide +kernel
theorem dX9_readsAddress_69 : decode cX9_readsAddress 69 = .ok (.iload 4, 2) := by decide +kernel
theorem dX9_readsAddress_71 : decode cX9_readsAddress 71 = .ok (.iconst 3, 1) := by decide +kernel
theorem dX9_readsAddress_72 : decode cX9_readsAddress 72 = .ok (.if_icmp .ge 31, 3) := by decide +kernel
theorem dX9_readsAddress_75 : decode cX9_readsAddress 75 = .ok (.aload_n 0, 1) := by decide +kernel
theorem dX9_readsAddress_76 : decode cX9_readsAddress 76 = .ok (.iload_n 2, 1) := by decide +kernel
theorem dX9_readsAddress_77 : decode cX9_readsAddress 77 = .ok (.invokevirtual 138, 3) := by decide +kernel
theorem dX9_readsAddress_80 : decode cX9_readsAddress 80 = .ok (.aload_n 0, 1) := by decide +kernel
theorem dX9_readsAddress_81 : decode cX9_readsAddress 81 = .ok (.getfield 24, 3) := by decide +kernel
theorem dX9_readsAddress_84 : decode cX9_readsAddress 84 = .ok (.iload 4, 2) := by decide +kernel
theorem dX9_readsAddress_86 : decode cX9_readsAddress 86 = .ok (.caload, 1) := by decide +kernel
theorem dX9_readsAddress_87 : decode cX9_readsAddress 87 = .ok (.i2l, 1) := by decide +kernel
theorem dX9_readsAddress_88 : decode cX9_readsAddress 88 = .ok (.lcmp, 1) := by decide +kernel
theorem dX9_readsAddress_89 : decode cX9_readsAddress 89 = .ok (.ifCond .eq 5, 3) := by decide +kernel
theorem dX9_readsAddress_92 : decode cX9_readsAddress 92 = .ok (.iload_n 2, 1) := by decide +kernel
theorem dX9_readsAddress_93 : decode cX9_readsAddress 93 = .ok (.ireturn, 1) := by decide +kernel
theorem dX9_readsAddress_94 : decode cX9_readsAddress 94 = .ok (.iinc 2 1, 3) := by decide +kernel
theorem dX9_readsAddress_97 : decode cX9_readsAddress 97 = .ok (.iinc 4 1, 3) := by decide +kernel
theorem dX9_readsAddress_100 : decode cX9_readsAddress 100 = .ok (.goto (-31), 3) := by decide +kernel
theorem dX9_readsAddress_103 : decode cX9_readsAddress 103 = .ok (.iload_n 2, 1) := by decide +kernel
theorem dX9_readsAddress_104 : decode cX9_readsAddress 104 = .ok (.istore 4, 2) := by decide +kernel
theorem dX9_readsAddress_106 : decode cX9_readsAddress 106 = .ok (.iload_n 2, 1) := by decide +kernel
theorem dX9_readsAddress_107 : decode cX9_readsAddress 107 = .ok (.iload 4, 2) := by decide +kernel
theorem dX9_readsAddress_109 : decode cX9_readsAddress 109 = .ok (.isub, 1) := by decide +kernel
theorem dX9_readsAddress_110 : decode cX9_readsAddress 110 = .ok (.bipush 30, 2) := by decide +kernel
theorem dX9_readsAddress_112 : decode cX9_readsAddress 112 = .ok (.if_icmp .ge 61, 3) := by decide +kernel
theorem dX9_readsAddress_115 : decode cX9_readsAddress 115 = .ok (.aload_n 0, 1) := by decide +kernel
theorem dX9_readsAddress_116 : decode cX9_readsAddress 116 = .ok (.iload_n 2, 1) := by decide +kernel
theorem dX9_readsAddress_117 : decode cX9_readsAddress 117 = .ok (.invokevirtual 138, 3) := by decide +kernel
theorem dX9_readsAddress_120 : decode cX9_readsAddress 120 = .ok (.invokestatic 104, 3) := by decide +kernel
theorem dX9_readsAddress_123 : decode cX9_readsAddress 123 = .ok (.ifCond .ne 44, 3) := by decide +kernel
theorem dX9_readsAddress_126 : decode cX9_readsAddress 126 = .ok (.aload_n 0, 1) := by decide +kernel
theorem dX9_readsAddress_127 : decode cX9_readsAddress 127 = .ok (.iload_n 2, 1) := by decide +kernel
theorem dX9_readsAddress_128 : decode cX9_readsAddress 128 = .ok (.invokevirtual 138, 3) := by decide +kernel
theorem dX9_readsAddress_131 : decode cX9_readsAddress 131 = .ok (.ldc2_w 102, 3) := by decide +kernel
theorem dX9_readsAddress_134 : decode cX9_readsAddress 134 = .ok (.lcmp, 1) := by decide +kernel
theorem dX9_readsAddress_135 : decode cX9_readsAddress 135 = .ok (.ifCond .ne 38, 3) := by decide +kernel
theorem dX9_readsAddress_138 : decode cX9_readsAddress 138 = .ok (.iload_n 2, 1) := by decide +kernel
theorem dX9_readsAddress_139 : decode cX9_readsAddress 139 = .ok (.iload 4, 2) := by decide +kernel
theorem dX9_readsAddress_141 : decode cX9_readsAddress 141 = .ok (.if_icmp .le 32, 3) := by decide +kernel
theorem dX9_readsAddress_144 : decode cX9_readsAddress 144 = .ok (.aload_n 0, 1) := by decide +kernel
theorem dX9_readsAddress_145 : decode cX9_readsAddress 145 = .ok (.iload_n 2, 1) := by decide +kernel
theorem dX9_readsAddress_146 : decode cX9_readsAddress 146 = .ok (.iconst 1, 1) := by decide +kernel
theorem dX9_readsAddress_147 : decode cX9_readsAddress 147 = .ok (.isub, 1) := by decide +kernel
theorem dX9_readsAddress_148 : decode cX9_readsAddress 148 = .ok (.invokevirtual 138, 3) := by decide +kernel
theorem dX9_readsAddress_151 : decode cX9_readsAddress 151 = .ok (.ldc2_w 102, 3) := by decide +kernel
theorem dX9_readsAddress_154 : decode cX9_readsAddress 154 = .ok (.lcmp, 1) := by decide +kernel
theorem dX9_readsAddress_155 : decode cX9_readsAddress 155 = .ok (.ifCond .eq 18, 3) := by decide +kernel
theorem dX9_readsAddress_158 : decode cX9_readsAddress 158 = .ok (.iload_n 2, 1) := by decide +kernel
theorem dX9_readsAddress_159 : decode cX9_readsAddress 159 = .ok (.iload 4, 2) := by decide +kernel
theorem dX9_readsAddress_161 : decode cX9_readsAddress 161 = .ok (.isub, 1) := by decide +kernel
theorem dX9_readsAddress_162 : decode cX9_readsAddress 162 = .ok (.bipush 29, 2) := by decide +kernel
theorem dX9_readsAddress_164 : decode cX9_readsAddress 164 = .ok (.if_icmp .ge 9, 3) := by decide +kernel
theorem dX9_readsAddress_167 : decode cX9_readsAddress 167 = .ok (.iinc 2 1, 3) := by decide +kernel
theorem dX9_readsAddress_170 : decode cX9_readsAddress 170 = .ok (.goto (-64), 3) := by decide +kernel
theorem dX9_readsAddress_173 : decode cX9_readsAddress 173 = .ok (.iload_n 2, 1) := by decide +kernel
theorem dX9_readsAddress_174 : decode cX9_readsAddress 174 = .ok (.iload 4, 2) := by decide +kernel
theorem dX9_readsAddress_176 : decode cX9_readsAddress 176 = .ok (.if_icmp .eq 17, 3) := by decide +kernel
theorem dX9_readsAddress_179 : decode cX9_readsAddress 179 = .ok (.aload_n 0, 1) := by decide +kernel
theorem dX9_readsAddress_180 : decode cX9_readsAddress 180 = .ok (.iload_n 2, 1) := by decide +kernel
theorem dX9_readsAddress_181 : decode cX9_readsAddress 181 = .ok (.iconst 1, 1) := by decide +kernel
theorem dX9_readsAddress_182 : decode cX9_readsAddress 182 = .ok (.isub, 1) := by decide +kernel
theorem dX9_readsAddress_183 : decode cX9_readsAddress 183 = .ok (.invokevirtual 138, 3) := by decide +kernel
theorem dX9_readsAddress_186 : decode cX9_readsAddress 186 = .ok (.ldc2_w 102, 3) := by decide +kernel
theorem dX9_readsAddress_189 : decode cX9_readsAddress 189 = .ok (.lcmp, 1) := by decide +kernel
theorem dX9_readsAddress_190 : decode cX9_readsAddress 190 = .ok (.ifCond .ne 5, 3) := by decide +kernel
theorem dX9_readsAddress_193 : decode cX9_readsAddress 193 = .ok (.iload_n 2, 1) := by decide +kernel
theorem dX9_readsAddress_194 : decode cX9_readsAddress 194 = .ok (.ireturn, 1) := by decide +kernel
theorem dX9_readsAddress_195 : decode cX9_readsAddress 195 = .ok (.iload_n 2, 1) := by decide +kernel
theorem dX9_readsAddress_196 : decode cX9_readsAddress 196 = .ok (.iload 4, 2) := by decide +kernel
theorem dX9_readsAddress_198 : decode cX9_readsAddress 198 = .ok (.isub, 1) := by decide +kernel
theorem dX9_readsAddress_199 : decode cX9_readsAddress 199 = .ok (.istore 5, 2) := by decide +kernel
theorem dX9_readsAddress_201 : decode cX9_readsAddress 201 = .ok (.iload_n 2, 1) := by decide +kernel
theorem dX9_readsAddress_202 : decode cX9_readsAddress 202 = .ok (.istore 6, 2) := by decide +kernel
theorem dX9_readsAddress_204 : decode cX9_readsAddress 204 = .ok (.aload_n 0, 1) := by decide +kernel
theorem dX9_readsAddress_205 : decode cX9_readsAddress 205 = .ok (.iload_n 2, 1) := by decide +kernel
theorem dX9_readsAddress_206 : decode cX9_readsAddress 206 = .ok (.invokevirtual 138, 3) := by decide +kernel
theorem dX9_readsAddress_209 : decode cX9_readsAddress 209 = .ok (.ldc2_w 144, 3) := by decide +kernel
theorem dX9_readsAddress_212 : decode cX9_readsAddress 212 = .ok (.lcmp, 1) := by decide +kernel
theorem dX9_readsAddress_213 : decode cX9_readsAddress 213 = .ok (.ifCond .ne 38, 3) := by decide +kernel
theorem dX9_readsAddress_216 : decode cX9_readsAddress 216 = .ok (.iload_n 2, 1) := by decide +kernel
theorem dX9_readsAddress_217 : decode cX9_readsAddress 217 = .ok (.aload_n 0, 1) := by decide +kernel
theorem dX9_readsAddress_218 : decode cX9_readsAddress 218 = .ok (.getfield 133, 3) := by decide +kernel
theorem dX9_readsAddress_221 : decode cX9_readsAddress 221 = .ok (.if_icmp .ge 30, 3) := by decide +kernel
theorem dX9_readsAddress_224 : decode cX9_readsAddress 224 = .ok (.aload_n 0, 1) := by decide +kernel
theorem dX9_readsAddress_225 : decode cX9_readsAddress 225 = .ok (.iload_n 2, 1) := by decide +kernel
theorem dX9_readsAddress_226 : decode cX9_readsAddress 226 = .ok (.invokevirtual 138, 3) := by decide +kernel
theorem dX9_readsAddress_229 : decode cX9_readsAddress 229 = .ok (.ldc2_w 146, 3) := by decide +kernel
theorem dX9_readsAddress_232 : decode cX9_readsAddress 232 = .ok (.lcmp, 1) := by decide +kernel
theorem dX9_readsAddress_233 : decode cX9_readsAddress 233 = .ok (.ifCond .eq 18, 3) := by decide +kernel
theorem dX9_readsAddress_236 : decode cX9_readsAddress 236 = .ok (.iload_n 2, 1) := by decide +kernel
theorem dX9_readsAddress_237 : decode cX9_readsAddress 237 = .ok (.iload 6, 2) := by decide +kernel
theorem dX9_readsAddress_239 : decode cX9_readsAddress 239 = .ok (.isub, 1) := by decide +kernel
theorem dX9_readsAddress_240 : decode cX9_readsAddress 240 = .ok (.bipush 40, 2) := by decide +kernel
theorem dX9_readsAddress_242 : decode cX9_readsAddress 242 = .ok (.if_icmp .ge 9, 3) := by decide +kernel
theorem dX9_readsAddress_245 : decode cX9_readsAddress 245 = .ok (.iinc 2 1, 3) := by decide +kernel
theorem dX9_readsAddress_248 : decode cX9_readsAddress 248 = .ok (.goto (-32), 3) := by decide +kernel
theorem dX9_readsAddress_251 : decode cX9_readsAddress 251 = .ok (.iload_n 2, 1) := by decide +kernel
theorem dX9_readsAddress_252 : decode cX9_readsAddress 252 = .ok (.aload_n 0, 1) := by decide +kernel
theorem dX9_readsAddress_253 : decode cX9_readsAddress 253 = .ok (.getfield 133, 3) := by decide +kernel
theorem dX9_readsAddress_256 : decode cX9_readsAddress 256 = .ok (.if_icmp .ge 17, 3) := by decide +kernel
theorem dX9_readsAddress_259 : decode cX9_readsAddress 259 = .ok (.aload_n 0, 1) := by decide +kernel
theorem dX9_readsAddress_260 : decode cX9_readsAddress 260 = .ok (.iload_n 2, 1) := by decide +kernel
theorem dX9_readsAddress_261 : decode cX9_readsAddress 261 = .ok (.invokevirtual 138, 3) := by decide +kernel
theorem dX9_readsAddress_264 : decode cX9_readsAddress 264 = .ok (.ldc2_w 146, 3) := by decide +kernel
theorem dX9_readsAddress_267 : decode cX9_readsAddress 267 = .ok (.lcmp, 1) := by decide +kernel
theorem dX9_readsAddress_268 : decode cX9_readsAddress 268 = .ok (.ifCond .eq 5, 3) := by decide +kernel
theorem dX9_readsAddress_271 : decode cX9_readsAddress 271 = .ok (.iload_n 2, 1) := by decide +kernel
theorem dX9_readsAddress_272 : decode cX9_readsAddress 272 = .ok (.ireturn, 1) := by decide +kernel
theorem dX9_readsAddress_273 : decode cX9_readsAddress 273 = .ok (.aload_n 0, 1) := by decide +kernel
theorem dX9_readsAddress_274 : decode cX9_readsAddress 274 = .ok (.getfield 7, 3) := by decide +kernel
theorem dX9_readsAddress_277 : decode cX9_readsAddress 277 = .ok (.iload_n 1, 1) := by decide +kernel
theorem dX9_readsAddress_278 : decode cX9_readsAddress 278 = .ok (.lconst 1, 1) := by decide +kernel
theorem dX9_readsAddress_279 : decode cX9_readsAddress 279 = .ok (.lastore, 1) := by decide +kernel
theorem dX9_readsAddress_280 : decode cX9_readsAddress 280 = .ok (.aload_n 0, 1) := by decide +kernel
theorem dX9_readsAddress_281 : decode cX9_readsAddress 281 = .ok (.getfield 7, 3) := by decide +kernel
theorem dX9_readsAddress_284 : decode cX9_readsAddress 284 = .ok (.iload_n 1, 1) := by decide +kernel
theorem dX9_readsAddress_285 : decode cX9_readsAddress 285 = .ok (.iconst 1, 1) := by decide +kernel
theorem dX9_readsAddress_286 : decode cX9_readsAddress 286 = .ok (.iadd, 1) := by decide +kernel
theorem dX9_readsAddress_287 : decode cX9_readsAddress 287 = .ok (.iload_n 3, 1) := by decide +kernel
theorem dX9_readsAddress_288 : decode cX9_readsAddress 288 = .ok (.ifCond .eq 7, 3) := by decide +kernel
theorem dX9_readsAddress_291 : decode cX9_readsAddress 291 = .ok (.lconst 1, 1) := by decide +kernel
theorem dX9_readsAddress_292 : decode cX9_readsAddress 292 = .ok (.goto 4, 3) := by decide +kernel
theorem dX9_readsAddress_295 : decode cX9_readsAddress 295 = .ok (.lconst 0, 1) := by decide +kernel
theorem dX9_readsAddress_296 : decode cX9_readsAddress 296 = .ok (.lastore, 1) := by decide +kernel
theorem dX9_readsAddress_297 : decode cX9_readsAddress 297 = .ok (.aload_n 0, 1) := by decide +kernel
theorem dX9_readsAddress_298 : decode cX9_readsAddress 298 = .ok (.getfield 7, 3) := by decide +kernel
theorem dX9_readsAddress_301 : decode cX9_readsAddress 301 = .ok (.iload_n 1, 1) := by decide +kernel
theorem dX9_readsAddress_302 : decode cX9_readsAddress 302 = .ok (.iconst 2, 1) := by decide +kernel
theorem dX9_readsAddress_303 : decode cX9_readsAddress 303 = .ok (.iadd, 1) := by decide +kernel
theorem dX9_readsAddress_304 : decode cX9_readsAddress 304 = .ok (.iload 5, 2) := by decide +kernel
theorem dX9_readsAddress_306 : decode cX9_readsAddress 306 = .ok (.i2l, 1) := by decide +kernel
theorem dX9_readsAddress_307 : decode cX9_readsAddress 307 = .ok (.lastore, 1) := by decide +kernel
theorem dX9_readsAddress_308 : decode cX9_readsAddress 308 = .ok (.aload_n 0, 1) := by decide +kernel
theorem dX9_readsAddress_309 : decode cX9_readsAddress 309 = .ok (.sipush 8400, 3) := by decide +kernel
theorem dX9_readsAddress_312 : decode cX9_readsAddress 312 = .ok (.iload 4, 2) := by decide +kernel
theorem dX9_readsAddress_314 : decode cX9_readsAddress 314 = .ok (.iadd, 1) := by decide +kernel
theorem dX9_readsAddress_315 : decode cX9_readsAddress 315 = .ok (.iload 5, 2) := by decide +kernel
theorem dX9_readsAddress_317 : decode cX9_readsAddress 317 = .ok (.iload_n 1, 1) := by decide +kernel
theorem dX9_readsAddress_318 : decode cX9_readsAddress 318 = .ok (.iconst 4, 1) := by decide +kernel
theorem dX9_readsAddress_319 : decode cX9_readsAddress 319 = .ok (.iadd, 1) := by decide +kernel
theorem dX9_readsAddress_320 : decode cX9_readsAddress 320 = .ok (.invokevirtual 148, 3) := by decide +kernel
theorem dX9_readsAddress_323 : decode cX9_readsAddress 323 = .ok (.aload_n 0, 1) := by decide +kernel
theorem dX9_readsAddress_324 : decode cX9_readsAddress 324 = .ok (.getfield 7, 3) := by decide +kernel
theorem dX9_readsAddress_327 : decode cX9_readsAddress 327 = .ok (.iload_n 1, 1) := by decide +kernel
theorem dX9_readsAddress_328 : decode cX9_readsAddress 328 = .ok (.iconst 3, 1) := by decide +kernel
theorem dX9_readsAddress_329 : decode cX9_readsAddress 329 = .ok (.iadd, 1) := by decide +kernel
theorem dX9_readsAddress_330 : decode cX9_readsAddress 330 = .ok (.iload_n 2, 1) := by decide +kernel
theorem dX9_readsAddress_331 : decode cX9_readsAddress 331 = .ok (.iload 6, 2) := by decide +kernel
theorem dX9_readsAddress_333 : decode cX9_readsAddress 333 = .ok (.if_icmp .le 11, 3) := by decide +kernel
theorem dX9_readsAddress_336 : decode cX9_readsAddress 336 = .ok (.iload_n 2, 1) := by decide +kernel
theorem dX9_readsAddress_337 : decode cX9_readsAddress 337 = .ok (.iload 6, 2) := by decide +kernel
theorem dX9_readsAddress_339 : decode cX9_readsAddress 339 = .ok (.isub, 1) := by decide +kernel
theorem dX9_readsAddress_340 : decode cX9_readsAddress 340 = .ok (.i2l, 1) := by decide +kernel
theorem dX9_readsAddress_341 : decode cX9_readsAddress 341 = .ok (.goto 4, 3) := by decide +kernel
theorem dX9_readsAddress_344 : decode cX9_readsAddress 344 = .ok (.lconst 1, 1) := by decide +kernel
theorem dX9_readsAddress_345 : decode cX9_readsAddress 345 = .ok (.lastore, 1) := by decide +kernel
theorem dX9_readsAddress_346 : decode cX9_readsAddress 346 = .ok (.aload_n 0, 1) := by decide +kernel
theorem dX9_readsAddress_347 : decode cX9_readsAddress 347 = .ok (.getfield 7, 3) := by decide +kernel
theorem dX9_readsAddress_350 : decode cX9_readsAddress 350 = .ok (.iload_n 1, 1) := by decide +kernel
theorem dX9_readsAddress_351 : decode cX9_readsAddress 351 = .ok (.bipush 34, 2) := by decide +kernel
theorem dX9_readsAddress_353 : decode cX9_readsAddress 353 = .ok (.iadd, 1) := by decide +kernel
theorem dX9_readsAddress_354 : decode cX9_readsAddress 354 = .ok (.ldc2_w 144, 3) := by decide +kernel
theorem dX9_readsAddress_357 : decode cX9_readsAddress 357 = .ok (.lastore, 1) := by decide +kernel
theorem dX9_readsAddress_358 : decode cX9_readsAddress 358 = .ok (.aload_n 0, 1) := by decide +kernel
theorem dX9_readsAddress_359 : decode cX9_readsAddress 359 = .ok (.sipush 8400, 3) := by decide +kernel
theorem dX9_readsAddress_362 : decode cX9_readsAddress 362 = .ok (.iload 6, 2) := by decide +kernel
theorem dX9_readsAddress_364 : decode cX9_readsAddress 364 = .ok (.iadd, 1) := by decide +kernel
theorem dX9_readsAddress_365 : decode cX9_readsAddress 365 = .ok (.iload_n 2, 1) := by decide +kernel
theorem dX9_readsAddress_366 : decode cX9_readsAddress 366 = .ok (.iload 6, 2) := by decide +kernel
theorem dX9_readsAddress_368 : decode cX9_readsAddress 368 = .ok (.isub, 1) := by decide +kernel
theorem dX9_readsAddress_369 : decode cX9_readsAddress 369 = .ok (.iload_n 1, 1) := by decide +kernel
theorem dX9_readsAddress_370 : decode cX9_readsAddress 370 = .ok (.bipush 34, 2) := by decide +kernel
theorem dX9_readsAddress_372 : decode cX9_readsAddress 372 = .ok (.iadd, 1) := by decide +kernel
theorem dX9_readsAddress_373 : decode cX9_readsAddress 373 = .ok (.invokevirtual 148, 3) := by decide +kernel
theorem dX9_readsAddress_376 : decode cX9_readsAddress 376 = .ok (.iconst (-1), 1) := by decide +kernel
theorem dX9_readsAddress_377 : decode cX9_readsAddress 377 = .ok (.ireturn, 1) := by decide +kernel
theorem dX9_opens_0 : decode cX9_opens 0 = .ok (.aload_n 0, 1) := by decide +kernel
theorem dX9_opens_1 : decode cX9_opens 1 = .ok (.iconst 0, 1) := by decide +kernel
theorem dX9_opens_2 : decode cX9_opens 2 = .ok (.putfield 82, 3) := by decide +kernel
theorem dX9_opens_5 : decode cX9_opens 5 = .ok (.aload_n 0, 1) := by decide +kernel
theorem dX9_opens_6 : decode cX9_opens 6 = .ok (.iload_n 1, 1) := by decide +kernel
theorem dX9_opens_7 : decode cX9_opens 7 = .ok (.invokevirtual 152, 3) := by decide +kernel
theorem dX9_opens_10 : decode cX9_opens 10 = .ok (.istore_n 2, 1) := by decide +kernel
theorem dX9_opens_11 : decode cX9_opens 11 = .ok (.iload_n 2, 1) := by decide +kernel
theorem dX9_opens_12 : decode cX9_opens 12 = .ok (.ifCond .lt 7, 3) := by decide +kernel
theorem dX9_opens_15 : decode cX9_opens 15 = .ok (.iconst (-1), 1) := by decide +kernel
theorem dX9_opens_16 : decode cX9_opens 16 = .ok (.iload_n 2, 1) := by decide +kernel
theorem dX9_opens_17 : decode cX9_opens 17 = .ok (.isub, 1) := by decide +kernel
theorem dX9_opens_18 : decode cX9_opens 18 = .ok (.ireturn, 1) := by decide +kernel
theorem dX9_opens_19 : decode cX9_opens 19 = .ok (.aload_n 0, 1) := by decide +kernel
theorem dX9_opens_20 : decode cX9_opens 20 = .ok (.iconst 0, 1) := by decide +kernel
theorem dX9_opens_21 : decode cX9_opens 21 = .ok (.putfield 133, 3) := by decide +kernel
theorem dX9_opens_24 : decode cX9_opens 24 = .ok (.aload_n 0, 1) := by decide +kernel
theorem dX9_opens_25 : decode cX9_opens 25 = .ok (.getfield 7, 3) := by decide +kernel
theorem dX9_opens_28 : decode cX9_opens 28 = .ok (.iload_n 1, 1) := by decide +kernel
theorem dX9_opens_29 : decode cX9_opens 29 = .ok (.iconst 1, 1) := by decide +kernel
theorem dX9_opens_30 : decode cX9_opens 30 = .ok (.iadd, 1) := by decide +kernel
theorem dX9_opens_31 : decode cX9_opens 31 = .ok (.laload, 1) := by decide +kernel
theorem dX9_opens_32 : decode cX9_opens 32 = .ok (.l2i, 1) := by decide +kernel
theorem dX9_opens_33 : decode cX9_opens 33 = .ok (.ireturn, 1) := by decide +kernel
theorem dX9_openPage_0 : decode cX9_openPage 0 = .ok (.aload_n 0, 1) := by decide +kernel
theorem dX9_openPage_1 : decode cX9_openPage 1 = .ok (.bipush 20, 2) := by decide +kernel
theorem dX9_openPage_3 : decode cX9_openPage 3 = .ok (.invokevirtual 156, 3) := by decide +kernel
theorem dX9_openPage_6 : decode cX9_openPage 6 = .ok (.ireturn, 1) := by decide +kernel
theorem dX9_openRequest_0 : decode cX9_openRequest 0 = .ok (.aload_n 0, 1) := by decide +kernel
theorem dX9_openRequest_1 : decode cX9_openRequest 1 = .ok (.bipush 100, 2) := by decide +kernel
theorem dX9_openRequest_3 : decode cX9_openRequest 3 = .ok (.invokevirtual 156, 3) := by decide +kernel
theorem dX9_openRequest_6 : decode cX9_openRequest 6 = .ok (.ireturn, 1) := by decide +kernel
theorem dX9_isOneSite_0 : decode cX9_isOneSite 0 = .ok (.aload_n 0, 1) := by decide +kernel
theorem dX9_isOneSite_1 : decode cX9_isOneSite 1 = .ok (.bipush 24, 2) := by decide +kernel
theorem dX9_isOneSite_3 : decode cX9_isOneSite 3 = .ok (.aload_n 0, 1) := by decide +kernel
theorem dX9_isOneSite_4 : decode cX9_isOneSite 4 = .ok (.getfield 7, 3) := by decide +kernel
theorem dX9_isOneSite_7 : decode cX9_isOneSite 7 = .ok (.bipush 22, 2) := by decide +kernel
theorem dX9_isOneSite_9 : decode cX9_isOneSite 9 = .ok (.laload, 1) := by decide +kernel
theorem dX9_isOneSite_10 : decode cX9_isOneSite 10 = .ok (.l2i, 1) := by decide +kernel
theorem dX9_isOneSite_11 : decode cX9_isOneSite 11 = .ok (.bipush 104, 2) := by decide +kernel
theorem dX9_isOneSite_13 : decode cX9_isOneSite 13 = .ok (.aload_n 0, 1) := by decide +kernel
theorem dX9_isOneSite_14 : decode cX9_isOneSite 14 = .ok (.getfield 7, 3) := by decide +kernel
theorem dX9_isOneSite_17 : decode cX9_isOneSite 17 = .ok (.bipush 102, 2) := by decide +kernel
theorem dX9_isOneSite_19 : decode cX9_isOneSite 19 = .ok (.laload, 1) := by decide +kernel
theorem dX9_isOneSite_20 : decode cX9_isOneSite 20 = .ok (.l2i, 1) := by decide +kernel
theorem dX9_isOneSite_21 : decode cX9_isOneSite 21 = .ok (.invokevirtual 159, 3) := by decide +kernel
theorem dX9_isOneSite_24 : decode cX9_isOneSite 24 = .ok (.istore_n 1, 1) := by decide +kernel
theorem dX9_isOneSite_25 : decode cX9_isOneSite 25 = .ok (.aload_n 0, 1) := by decide +kernel
theorem dX9_isOneSite_26 : decode cX9_isOneSite 26 = .ok (.getfield 7, 3) := by decide +kernel
theorem dX9_isOneSite_29 : decode cX9_isOneSite 29 = .ok (.bipush 20, 2) := by decide +kernel
theorem dX9_isOneSite_31 : decode cX9_isOneSite 31 = .ok (.laload, 1) := by decide +kernel
theorem dX9_isOneSite_32 : decode cX9_isOneSite 32 = .ok (.lconst 0, 1) := by decide +kernel
theorem dX9_isOneSite_33 : decode cX9_isOneSite 33 = .ok (.lcmp, 1) := by decide +kernel
theorem dX9_isOneSite_34 : decode cX9_isOneSite 34 = .ok (.ifCond .eq 25, 3) := by decide +kernel
theorem dX9_isOneSite_37 : decode cX9_isOneSite 37 = .ok (.iload_n 1, 1) := by decide +kernel
theorem dX9_isOneSite_38 : decode cX9_isOneSite 38 = .ok (.ifCond .eq 25, 3) := by decide +kernel
theorem dX9_isOneSite_41 : decode cX9_isOneSite 41 = .ok (.aload_n 0, 1) := by decide +kernel
theorem dX9_isOneSite_42 : decode cX9_isOneSite 42 = .ok (.getfield 7, 3) := by decide +kernel
theorem dX9_isOneSite_45 : decode cX9_isOneSite 45 = .ok (.bipush 21, 2) := by decide +kernel
theorem dX9_isOneSite_47 : decode cX9_isOneSite 47 = .ok (.laload, 1) := by decide +kernel
theorem dX9_isOneSite_48 : decode cX9_isOneSite 48 = .ok (.aload_n 0, 1) := by decide +kernel
theorem dX9_isOneSite_49 : decode cX9_isOneSite 49 = .ok (.getfield 7, 3) := by decide +kernel
theorem dX9_isOneSite_52 : decode cX9_isOneSite 52 = .ok (.bipush 101, 2) := by decide +kernel
theorem dX9_isOneSite_54 : decode cX9_isOneSite 54 = .ok (.laload, 1) := by decide +kernel
theorem dX9_isOneSite_55 : decode cX9_isOneSite 55 = .ok (.lcmp, 1) := by decide +kernel
theorem dX9_isOneSite_56 : decode cX9_isOneSite 56 = .ok (.ifCond .ne 7, 3) := by decide +kernel
theorem dX9_isOneSite_59 : decode cX9_isOneSite 59 = .ok (.iconst 1, 1) := by decide +kernel
theorem dX9_isOneSite_60 : decode cX9_isOneSite 60 = .ok (.goto 4, 3) := by decide +kernel
theorem dX9_isOneSite_63 : decode cX9_isOneSite 63 = .ok (.iconst 0, 1) := by decide +kernel
theorem dX9_isOneSite_64 : decode cX9_isOneSite 64 = .ok (.ireturn, 1) := by decide +kernel
theorem dX9_isSameSite_0 : decode cX9_isSameSite 0 = .ok (.aload_n 0, 1) := by decide +kernel
theorem dX9_isSameSite_1 : decode cX9_isSameSite 1 = .ok (.aload_n 0, 1) := by decide +kernel
theorem dX9_isSameSite_2 : decode cX9_isSameSite 2 = .ok (.getfield 7, 3) := by decide +kernel
theorem dX9_isSameSite_5 : decode cX9_isSameSite 5 = .ok (.bipush 100, 2) := by decide +kernel
theorem dX9_isSameSite_7 : decode cX9_isSameSite 7 = .ok (.laload, 1) := by decide +kernel
theorem dX9_isSameSite_8 : decode cX9_isSameSite 8 = .ok (.lconst 0, 1) := by decide +kernel
theorem dX9_isSameSite_9 : decode cX9_isSameSite 9 = .ok (.lcmp, 1) := by decide +kernel
theorem dX9_isSameSite_10 : decode cX9_isSameSite 10 = .ok (.ifCond .ne 7, 3) := by decide +kernel
theorem dX9_isSameSite_13 : decode cX9_isSameSite 13 = .ok (.iconst 1, 1) := by decide +kernel
theorem dX9_isSameSite_14 : decode cX9_isSameSite 14 = .ok (.goto 4, 3) := by decide +kernel
theorem dX9_isSameSite_17 : decode cX9_isSameSite 17 = .ok (.iconst 0, 1) := by decide +kernel
theorem dX9_isSameSite_18 : decode cX9_isSameSite 18 = .ok (.putfield 82, 3) := by decide +kernel
theorem dX9_isSameSite_21 : decode cX9_isSameSite 21 = .ok (.aload_n 0, 1) := by decide +kernel
theorem dX9_isSameSite_22 : decode cX9_isSameSite 22 = .ok (.getfield 82, 3) := by decide +kernel
theorem dX9_isSameSite_25 : decode cX9_isSameSite 25 = .ok (.ifCond .ne 14, 3) := by decide +kernel
theorem dX9_isSameSite_28 : decode cX9_isSameSite 28 = .ok (.aload_n 0, 1) := by decide +kernel
theorem dX9_isSameSite_29 : decode cX9_isSameSite 29 = .ok (.invokevirtual 162, 3) := by decide +kernel
theorem dX9_isSameSite_32 : decode cX9_isSameSite 32 = .ok (.ifCond .eq 7, 3) := by decide +kernel
theorem dX9_isSameSite_35 : decode cX9_isSameSite 35 = .ok (.iconst 1, 1) := by decide +kernel
theorem dX9_isSameSite_36 : decode cX9_isSameSite 36 = .ok (.goto 4, 3) := by decide +kernel
theorem dX9_isSameSite_39 : decode cX9_isSameSite 39 = .ok (.iconst 0, 1) := by decide +kernel
theorem dX9_isSameSite_40 : decode cX9_isSameSite 40 = .ok (.ireturn, 1) := by decide +kernel
theorem dX9_hostLong_0 : decode cX9_hostLong 0 = .ok (.aload_n 0, 1) := by decide +kernel
theorem dX9_hostLong_1 : decode cX9_hostLong 1 = .ok (.getfield 7, 3) := by decide +kernel
theorem dX9_hostLong_4 : decode cX9_hostLong 4 = .ok (.bipush 102, 2) := by decide +kernel
theorem dX9_hostLong_6 : decode cX9_hostLong 6 = .ok (.laload, 1) := by decide +kernel
theorem dX9_hostLong_7 : decode cX9_hostLong 7 = .ok (.l2i, 1) := by decide +kernel
theorem dX9_hostLong_8 : decode cX9_hostLong 8 = .ok (.ireturn, 1) := by decide +kernel
theorem dX9_siteChar_0 : decode cX9_siteChar 0 = .ok (.aload_n 0, 1) := by decide +kernel
theorem dX9_siteChar_1 : decode cX9_siteChar 1 = .ok (.iconst 0, 1) := by decide +kernel
theorem dX9_siteChar_2 : decode cX9_siteChar 2 = .ok (.putfield 82, 3) := by decide +kernel
theorem dX9_siteChar_5 : decode cX9_siteChar 5 = .ok (.aload_n 0, 1) := by decide +kernel
theorem dX9_siteChar_6 : decode cX9_siteChar 6 = .ok (.getfield 7, 3) := by decide +kernel
theorem dX9_siteChar_9 : decode cX9_siteChar 9 = .ok (.bipush 100, 2) := by decide +kernel
theorem dX9_siteChar_11 : decode cX9_siteChar 11 = .ok (.laload, 1) := by decide +kernel
theorem dX9_siteChar_12 : decode cX9_siteChar 12 = .ok (.lconst 0, 1) := by decide +kernel
theorem dX9_siteChar_13 : decode cX9_siteChar 13 = .ok (.lcmp, 1) := by decide +kernel
theorem dX9_siteChar_14 : decode cX9_siteChar 14 = .ok (.ifCond .ne 9, 3) := by decide +kernel
theorem dX9_siteChar_17 : decode cX9_siteChar 17 = .ok (.aload_n 0, 1) := by decide +kernel
theorem dX9_siteChar_18 : decode cX9_siteChar 18 = .ok (.iconst 1, 1) := by decide +kernel
theorem dX9_siteChar_19 : decode cX9_siteChar 19 = .ok (.invokevirtual 166, 3) := by decide +kernel
theorem dX9_siteChar_22 : decode cX9_siteChar 22 = .ok (.ireturn, 1) := by decide +kernel
theorem dX9_siteChar_23 : decode cX9_siteChar 23 = .ok (.iload_n 1, 1) := by decide +kernel
theorem dX9_siteChar_24 : decode cX9_siteChar 24 = .ok (.ifCond .ge 9, 3) := by decide +kernel
theorem dX9_siteChar_27 : decode cX9_siteChar 27 = .ok (.aload_n 0, 1) := by decide +kernel
theorem dX9_siteChar_28 : decode cX9_siteChar 28 = .ok (.iconst 2, 1) := by decide +kernel
theorem dX9_siteChar_29 : decode cX9_siteChar 29 = .ok (.invokevirtual 166, 3) := by decide +kernel
theorem dX9_siteChar_32 : decode cX9_siteChar 32 = .ok (.ireturn, 1) := by decide +kernel
theorem dX9_siteChar_33 : decode cX9_siteChar 33 = .ok (.aload_n 0, 1) := by decide +kernel
theorem dX9_siteChar_34 : decode cX9_siteChar 34 = .ok (.bipush 104, 2) := by decide +kernel
theorem dX9_siteChar_36 : decode cX9_siteChar 36 = .ok (.aload_n 0, 1) := by decide +kernel
theorem dX9_siteChar_37 : decode cX9_siteChar 37 = .ok (.invokevirtual 169, 3) := by decide +kernel
theorem dX9_siteChar_40 : decode cX9_siteChar 40 = .ok (.invokevirtual 126, 3) := by decide +kernel
theorem dX9_siteChar_43 : decode cX9_siteChar 43 = .ok (.istore_n 2, 1) := by decide +kernel
theorem dX9_siteChar_44 : decode cX9_siteChar 44 = .ok (.iload_n 1, 1) := by decide +kernel
theorem dX9_siteChar_45 : decode cX9_siteChar 45 = .ok (.aload_n 0, 1) := by decide +kernel
theorem dX9_siteChar_46 : decode cX9_siteChar 46 = .ok (.invokevirtual 169, 3) := by decide +kernel
theorem dX9_siteChar_49 : decode cX9_siteChar 49 = .ok (.iload_n 2, 1) := by decide +kernel
theorem dX9_siteChar_50 : decode cX9_siteChar 50 = .ok (.isub, 1) := by decide +kernel
theorem dX9_siteChar_51 : decode cX9_siteChar 51 = .ok (.if_icmp .ge 18, 3) := by decide +kernel
theorem dX9_siteChar_54 : decode cX9_siteChar 54 = .ok (.aload_n 0, 1) := by decide +kernel
theorem dX9_siteChar_55 : decode cX9_siteChar 55 = .ok (.getfield 7, 3) := by decide +kernel
theorem dX9_siteChar_58 : decode cX9_siteChar 58 = .ok (.bipush 104, 2) := by decide +kernel
theorem dX9_siteChar_60 : decode cX9_siteChar 60 = .ok (.iload_n 2, 1) := by decide +kernel
theorem dX9_siteChar_61 : decode cX9_siteChar 61 = .ok (.iadd, 1) := by decide +kernel
theorem dX9_siteChar_62 : decode cX9_siteChar 62 = .ok (.iload_n 1, 1) := by decide +kernel
theorem dX9_siteChar_63 : decode cX9_siteChar 63 = .ok (.iadd, 1) := by decide +kernel
theorem dX9_siteChar_64 : decode cX9_siteChar 64 = .ok (.laload, 1) := by decide +kernel
theorem dX9_siteChar_65 : decode cX9_siteChar 65 = .ok (.l2i, 1) := by decide +kernel
theorem dX9_siteChar_66 : decode cX9_siteChar 66 = .ok (.goto 4, 3) := by decide +kernel
theorem dX9_siteChar_69 : decode cX9_siteChar 69 = .ok (.iconst (-1), 1) := by decide +kernel
theorem dX9_siteChar_70 : decode cX9_siteChar 70 = .ok (.ireturn, 1) := by decide +kernel
theorem dX9_type_0 : decode cX9_type 0 = .ok (.aload_n 0, 1) := by decide +kernel
theorem dX9_type_1 : decode cX9_type 1 = .ok (.iconst 0, 1) := by decide +kernel
theorem dX9_type_2 : decode cX9_type 2 = .ok (.putfield 82, 3) := by decide +kernel
theorem dX9_type_5 : decode cX9_type 5 = .ok (.iload_n 1, 1) := by decide +kernel
theorem dX9_type_6 : decode cX9_type 6 = .ok (.i2l, 1) := by decide +kernel
theorem dX9_type_7 : decode cX9_type 7 = .ok (.ldc2_w 173, 3) := by decide +kernel
theorem dX9_type_10 : decode cX9_type 10 = .ok (.ldc2_w 175, 3) := by decide +kernel
theorem dX9_type_13 : decode cX9_type 13 = .ok (.invokestatic 90, 3) := by decide +kernel
theorem dX9_type_16 : decode cX9_type 16 = .ok (.ifCond .ne 9, 3) := by decide +kernel
theorem dX9_type_19 : decode cX9_type 19 = .ok (.aload_n 0, 1) := by decide +kernel
theorem dX9_type_20 : decode cX9_type 20 = .ok (.iconst 1, 1) := by decide +kernel
theorem dX9_type_21 : decode cX9_type 21 = .ok (.invokevirtual 166, 3) := by decide +kernel
theorem dX9_type_24 : decode cX9_type 24 = .ok (.ireturn, 1) := by decide +kernel
theorem dX9_type_25 : decode cX9_type 25 = .ok (.aload_n 0, 1) := by decide +kernel
theorem dX9_type_26 : decode cX9_type 26 = .ok (.getfield 133, 3) := by decide +kernel
theorem dX9_type_29 : decode cX9_type 29 = .ok (.sipush 160, 3) := by decide +kernel
theorem dX9_type_32 : decode cX9_type 32 = .ok (.if_icmp .ne 9, 3) := by decide +kernel
theorem dX9_type_35 : decode cX9_type 35 = .ok (.aload_n 0, 1) := by decide +kernel
theorem dX9_type_36 : decode cX9_type 36 = .ok (.iconst 2, 1) := by decide +kernel
theorem dX9_type_37 : decode cX9_type 37 = .ok (.invokevirtual 166, 3) := by decide +kernel
theorem dX9_type_40 : decode cX9_type 40 = .ok (.ireturn, 1) := by decide +kernel
theorem dX9_type_41 : decode cX9_type 41 = .ok (.aload_n 0, 1) := by decide +kernel
theorem dX9_type_42 : decode cX9_type 42 = .ok (.getfield 7, 3) := by decide +kernel
theorem dX9_type_45 : decode cX9_type 45 = .ok (.sipush 8400, 3) := by decide +kernel
theorem dX9_type_48 : decode cX9_type 48 = .ok (.aload_n 0, 1) := by decide +kernel
theorem dX9_type_49 : decode cX9_type 49 = .ok (.getfield 133, 3) := by decide +kernel
theorem dX9_type_52 : decode cX9_type 52 = .ok (.iadd, 1) := by decide +kernel
theorem dX9_type_53 : decode cX9_type 53 = .ok (.iload_n 1, 1) := by decide +kernel
theorem dX9_type_54 : decode cX9_type 54 = .ok (.i2l, 1) := by decide +kernel
theorem dX9_type_55 : decode cX9_type 55 = .ok (.lastore, 1) := by decide +kernel
theorem dX9_type_56 : decode cX9_type 56 = .ok (.aload_n 0, 1) := by decide +kernel
theorem dX9_type_57 : decode cX9_type 57 = .ok (.dup, 1) := by decide +kernel
theorem dX9_type_58 : decode cX9_type 58 = .ok (.getfield 133, 3) := by decide +kernel
theorem dX9_type_61 : decode cX9_type 61 = .ok (.iconst 1, 1) := by decide +kernel
theorem dX9_type_62 : decode cX9_type 62 = .ok (.iadd, 1) := by decide +kernel
theorem dX9_type_63 : decode cX9_type 63 = .ok (.putfield 133, 3) := by decide +kernel
theorem dX9_type_66 : decode cX9_type 66 = .ok (.aload_n 0, 1) := by decide +kernel
theorem dX9_type_67 : decode cX9_type 67 = .ok (.getfield 133, 3) := by decide +kernel
theorem dX9_type_70 : decode cX9_type 70 = .ok (.ireturn, 1) := by decide +kernel
theorem dX9_clearText_0 : decode cX9_clearText 0 = .ok (.aload_n 0, 1) := by decide +kernel
theorem dX9_clearText_1 : decode cX9_clearText 1 = .ok (.iconst 0, 1) := by decide +kernel
theorem dX9_clearText_2 : decode cX9_clearText 2 = .ok (.putfield 82, 3) := by decide +kernel
theorem dX9_clearText_5 : decode cX9_clearText 5 = .ok (.aload_n 0, 1) := by decide +kernel
theorem dX9_clearText_6 : decode cX9_clearText 6 = .ok (.getfield 133, 3) := by decide +kernel
theorem dX9_clearText_9 : decode cX9_clearText 9 = .ok (.istore_n 1, 1) := by decide +kernel
theorem dX9_clearText_10 : decode cX9_clearText 10 = .ok (.aload_n 0, 1) := by decide +kernel
theorem dX9_clearText_11 : decode cX9_clearText 11 = .ok (.iconst 0, 1) := by decide +kernel
theorem dX9_clearText_12 : decode cX9_clearText 12 = .ok (.putfield 133, 3) := by decide +kernel
theorem dX9_clearText_15 : decode cX9_clearText 15 = .ok (.iload_n 1, 1) := by decide +kernel
theorem dX9_clearText_16 : decode cX9_clearText 16 = .ok (.ireturn, 1) := by decide +kernel
theorem dX9_addSuffix_0 : decode cX9_addSuffix 0 = .ok (.aload_n 0, 1) := by decide +kernel
theorem dX9_addSuffix_1 : decode cX9_addSuffix 1 = .ok (.iconst 0, 1) := by decide +kernel
theorem dX9_addSuffix_2 : decode cX9_addSuffix 2 = .ok (.putfield 82, 3) := by decide +kernel
theorem dX9_addSuffix_5 : decode cX9_addSuffix 5 = .ok (.aload_n 0, 1) := by decide +kernel
theorem dX9_addSuffix_6 : decode cX9_addSuffix 6 = .ok (.sipush 8400, 3) := by decide +kernel
theorem dX9_addSuffix_9 : decode cX9_addSuffix 9 = .ok (.aload_n 0, 1) := by decide +kernel
theorem dX9_addSuffix_10 : decode cX9_addSuffix 10 = .ok (.getfield 133, 3) := by decide +kernel
theorem dX9_addSuffix_13 : decode cX9_addSuffix 13 = .ok (.invokevirtual 119, 3) := by decide +kernel
theorem dX9_addSuffix_16 : decode cX9_addSuffix 16 = .ok (.istore_n 1, 1) := by decide +kernel
theorem dX9_addSuffix_17 : decode cX9_addSuffix 17 = .ok (.iconst 0, 1) := by decide +kernel
theorem dX9_addSuffix_18 : decode cX9_addSuffix 18 = .ok (.istore_n 2, 1) := by decide +kernel
theorem dX9_addSuffix_19 : decode cX9_addSuffix 19 = .ok (.iload_n 2, 1) := by decide +kernel
theorem dX9_addSuffix_20 : decode cX9_addSuffix 20 = .ok (.i2l, 1) := by decide +kernel
theorem dX9_addSuffix_21 : decode cX9_addSuffix 21 = .ok (.aload_n 0, 1) := by decide +kernel
theorem dX9_addSuffix_22 : decode cX9_addSuffix 22 = .ok (.getfield 7, 3) := by decide +kernel
theorem dX9_addSuffix_25 : decode cX9_addSuffix 25 = .ok (.bipush 6, 2) := by decide +kernel
theorem dX9_addSuffix_27 : decode cX9_addSuffix 27 = .ok (.laload, 1) := by decide +kernel
theorem dX9_addSuffix_28 : decode cX9_addSuffix 28 = .ok (.lcmp, 1) := by decide +kernel
theorem dX9_addSuffix_29 : decode cX9_addSuffix 29 = .ok (.ifCond .ge 52, 3) := by decide +kernel
theorem dX9_addSuffix_32 : decode cX9_addSuffix 32 = .ok (.sipush 180, 3) := by decide +kernel
theorem dX9_addSuffix_35 : decode cX9_addSuffix 35 = .ok (.bipush 32, 2) := by decide +kernel
theorem dX9_addSuffix_37 : decode cX9_addSuffix 37 = .ok (.iload_n 2, 1) := by decide +kernel
theorem dX9_addSuffix_38 : decode cX9_addSuffix 38 = .ok (.imul, 1) := by decide +kernel
theorem dX9_addSuffix_39 : decode cX9_addSuffix 39 = .ok (.iadd, 1) := by decide +kernel
theorem dX9_addSuffix_40 : decode cX9_addSuffix 40 = .ok (.istore_n 3, 1) := by decide +kernel
theorem dX9_addSuffix_41 : decode cX9_addSuffix 41 = .ok (.iload_n 1, 1) := by decide +kernel
theorem dX9_addSuffix_42 : decode cX9_addSuffix 42 = .ok (.ifCond .eq 31, 3) := by decide +kernel
theorem dX9_addSuffix_45 : decode cX9_addSuffix 45 = .ok (.aload_n 0, 1) := by decide +kernel
theorem dX9_addSuffix_46 : decode cX9_addSuffix 46 = .ok (.iload_n 3, 1) := by decide +kernel
theorem dX9_addSuffix_47 : decode cX9_addSuffix 47 = .ok (.iconst 1, 1) := by decide +kernel
theorem dX9_addSuffix_48 : decode cX9_addSuffix 48 = .ok (.iadd, 1) := by decide +kernel
theorem dX9_addSuffix_49 : decode cX9_addSuffix 49 = .ok (.aload_n 0, 1) := by decide +kernel
theorem dX9_addSuffix_50 : decode cX9_addSuffix 50 = .ok (.getfield 7, 3) := by decide +kernel
theorem dX9_addSuffix_53 : decode cX9_addSuffix 53 = .ok (.iload_n 3, 1) := by decide +kernel
theorem dX9_addSuffix_54 : decode cX9_addSuffix 54 = .ok (.laload, 1) := by decide +kernel
theorem dX9_addSuffix_55 : decode cX9_addSuffix 55 = .ok (.l2i, 1) := by decide +kernel
theorem dX9_addSuffix_56 : decode cX9_addSuffix 56 = .ok (.sipush 8400, 3) := by decide +kernel
theorem dX9_addSuffix_59 : decode cX9_addSuffix 59 = .ok (.aload_n 0, 1) := by decide +kernel
theorem dX9_addSuffix_60 : decode cX9_addSuffix 60 = .ok (.getfield 133, 3) := by decide +kernel
theorem dX9_addSuffix_63 : decode cX9_addSuffix 63 = .ok (.invokevirtual 108, 3) := by decide +kernel
theorem dX9_addSuffix_66 : decode cX9_addSuffix 66 = .ok (.ifCond .ne 7, 3) := by decide +kernel
theorem dX9_addSuffix_69 : decode cX9_addSuffix 69 = .ok (.iconst 1, 1) := by decide +kernel
theorem dX9_addSuffix_70 : decode cX9_addSuffix 70 = .ok (.goto 4, 3) := by decide +kernel
theorem dX9_addSuffix_73 : decode cX9_addSuffix 73 = .ok (.iconst 0, 1) := by decide +kernel
theorem dX9_addSuffix_74 : decode cX9_addSuffix 74 = .ok (.istore_n 1, 1) := by decide +kernel
theorem dX9_addSuffix_75 : decode cX9_addSuffix 75 = .ok (.iinc 2 1, 3) := by decide +kernel
theorem dX9_addSuffix_78 : decode cX9_addSuffix 78 = .ok (.goto (-59), 3) := by decide +kernel
theorem dX9_addSuffix_81 : decode cX9_addSuffix 81 = .ok (.iload_n 1, 1) := by decide +kernel
theorem dX9_addSuffix_82 : decode cX9_addSuffix 82 = .ok (.ifCond .ne 9, 3) := by decide +kernel
theorem dX9_addSuffix_85 : decode cX9_addSuffix 85 = .ok (.aload_n 0, 1) := by decide +kernel
theorem dX9_addSuffix_86 : decode cX9_addSuffix 86 = .ok (.iconst 1, 1) := by decide +kernel
theorem dX9_addSuffix_87 : decode cX9_addSuffix 87 = .ok (.invokevirtual 166, 3) := by decide +kernel
theorem dX9_addSuffix_90 : decode cX9_addSuffix 90 = .ok (.ireturn, 1) := by decide +kernel
theorem dX9_addSuffix_91 : decode cX9_addSuffix 91 = .ok (.aload_n 0, 1) := by decide +kernel
theorem dX9_addSuffix_92 : decode cX9_addSuffix 92 = .ok (.getfield 7, 3) := by decide +kernel
theorem dX9_addSuffix_95 : decode cX9_addSuffix 95 = .ok (.bipush 6, 2) := by decide +kernel
theorem dX9_addSuffix_97 : decode cX9_addSuffix 97 = .ok (.laload, 1) := by decide +kernel
theorem dX9_addSuffix_98 : decode cX9_addSuffix 98 = .ok (.ldc2_w 177, 3) := by decide +kernel
theorem dX9_addSuffix_101 : decode cX9_addSuffix 101 = .ok (.lcmp, 1) := by decide +kernel
theorem dX9_addSuffix_102 : decode cX9_addSuffix 102 = .ok (.ifCond .ne 9, 3) := by decide +kernel
theorem dX9_addSuffix_105 : decode cX9_addSuffix 105 = .ok (.aload_n 0, 1) := by decide +kernel
theorem dX9_addSuffix_106 : decode cX9_addSuffix 106 = .ok (.iconst 2, 1) := by decide +kernel
theorem dX9_addSuffix_107 : decode cX9_addSuffix 107 = .ok (.invokevirtual 166, 3) := by decide +kernel
theorem dX9_addSuffix_110 : decode cX9_addSuffix 110 = .ok (.ireturn, 1) := by decide +kernel
theorem dX9_addSuffix_111 : decode cX9_addSuffix 111 = .ok (.sipush 180, 3) := by decide +kernel
theorem dX9_addSuffix_114 : decode cX9_addSuffix 114 = .ok (.bipush 32, 2) := by decide +kernel
theorem dX9_addSuffix_116 : decode cX9_addSuffix 116 = .ok (.aload_n 0, 1) := by decide +kernel
theorem dX9_addSuffix_117 : decode cX9_addSuffix 117 = .ok (.getfield 7, 3) := by decide +kernel
theorem dX9_addSuffix_120 : decode cX9_addSuffix 120 = .ok (.bipush 6, 2) := by decide +kernel
theorem dX9_addSuffix_122 : decode cX9_addSuffix 122 = .ok (.laload, 1) := by decide +kernel
theorem dX9_addSuffix_123 : decode cX9_addSuffix 123 = .ok (.l2i, 1) := by decide +kernel
theorem dX9_addSuffix_124 : decode cX9_addSuffix 124 = .ok (.imul, 1) := by decide +kernel
theorem dX9_addSuffix_125 : decode cX9_addSuffix 125 = .ok (.iadd, 1) := by decide +kernel
theorem dX9_addSuffix_126 : decode cX9_addSuffix 126 = .ok (.istore_n 2, 1) := by decide +kernel
theorem dX9_addSuffix_127 : decode cX9_addSuffix 127 = .ok (.aload_n 0, 1) := by decide +kernel
theorem dX9_addSuffix_128 : decode cX9_addSuffix 128 = .ok (.getfield 7, 3) := by decide +kernel
theorem dX9_addSuffix_131 : decode cX9_addSuffix 131 = .ok (.iload_n 2, 1) := by decide +kernel
theorem dX9_addSuffix_132 : decode cX9_addSuffix 132 = .ok (.aload_n 0, 1) := by decide +kernel
theorem dX9_addSuffix_133 : decode cX9_addSuffix 133 = .ok (.getfield 133, 3) := by decide +kernel
theorem dX9_addSuffix_136 : decode cX9_addSuffix 136 = .ok (.i2l, 1) := by decide +kernel
theorem dX9_addSuffix_137 : decode cX9_addSuffix 137 = .ok (.lastore, 1) := by decide +kernel
theorem dX9_addSuffix_138 : decode cX9_addSuffix 138 = .ok (.aload_n 0, 1) := by decide +kernel
theorem dX9_addSuffix_139 : decode cX9_addSuffix 139 = .ok (.sipush 8400, 3) := by decide +kernel
theorem dX9_addSuffix_142 : decode cX9_addSuffix 142 = .ok (.aload_n 0, 1) := by decide +kernel
theorem dX9_addSuffix_143 : decode cX9_addSuffix 143 = .ok (.getfield 133, 3) := by decide +kernel
theorem dX9_addSuffix_146 : decode cX9_addSuffix 146 = .ok (.iload_n 2, 1) := by decide +kernel
theorem dX9_addSuffix_147 : decode cX9_addSuffix 147 = .ok (.iconst 1, 1) := by decide +kernel
theorem dX9_addSuffix_148 : decode cX9_addSuffix 148 = .ok (.iadd, 1) := by decide +kernel
theorem dX9_addSuffix_149 : decode cX9_addSuffix 149 = .ok (.invokevirtual 148, 3) := by decide +kernel
theorem dX9_addSuffix_152 : decode cX9_addSuffix 152 = .ok (.aload_n 0, 1) := by decide +kernel
theorem dX9_addSuffix_153 : decode cX9_addSuffix 153 = .ok (.getfield 7, 3) := by decide +kernel
theorem dX9_addSuffix_156 : decode cX9_addSuffix 156 = .ok (.bipush 6, 2) := by decide +kernel
theorem dX9_addSuffix_158 : decode cX9_addSuffix 158 = .ok (.dup2, 1) := by decide +kernel
theorem dX9_addSuffix_159 : decode cX9_addSuffix 159 = .ok (.laload, 1) := by decide +kernel
theorem dX9_addSuffix_160 : decode cX9_addSuffix 160 = .ok (.lconst 1, 1) := by decide +kernel
theorem dX9_addSuffix_161 : decode cX9_addSuffix 161 = .ok (.ladd, 1) := by decide +kernel
theorem dX9_addSuffix_162 : decode cX9_addSuffix 162 = .ok (.lastore, 1) := by decide +kernel
theorem dX9_addSuffix_163 : decode cX9_addSuffix 163 = .ok (.aload_n 0, 1) := by decide +kernel
theorem dX9_addSuffix_164 : decode cX9_addSuffix 164 = .ok (.iconst 0, 1) := by decide +kernel
theorem dX9_addSuffix_165 : decode cX9_addSuffix 165 = .ok (.putfield 133, 3) := by decide +kernel
theorem dX9_addSuffix_168 : decode cX9_addSuffix 168 = .ok (.aload_n 0, 1) := by decide +kernel
theorem dX9_addSuffix_169 : decode cX9_addSuffix 169 = .ok (.getfield 7, 3) := by decide +kernel
theorem dX9_addSuffix_172 : decode cX9_addSuffix 172 = .ok (.bipush 6, 2) := by decide +kernel
theorem dX9_addSuffix_174 : decode cX9_addSuffix 174 = .ok (.laload, 1) := by decide +kernel
theorem dX9_addSuffix_175 : decode cX9_addSuffix 175 = .ok (.l2i, 1) := by decide +kernel
theorem dX9_addSuffix_176 : decode cX9_addSuffix 176 = .ok (.ireturn, 1) := by decide +kernel
theorem dX9_trimFrom_0 : decode cX9_trimFrom 0 = .ok (.iload_n 1, 1) := by decide +kernel
theorem dX9_trimFrom_1 : decode cX9_trimFrom 1 = .ok (.istore_n 3, 1) := by decide +kernel
theorem dX9_trimFrom_2 : decode cX9_trimFrom 2 = .ok (.iload_n 3, 1) := by decide +kernel
theorem dX9_trimFrom_3 : decode cX9_trimFrom 3 = .ok (.iload_n 2, 1) := by decide +kernel
theorem dX9_trimFrom_4 : decode cX9_trimFrom 4 = .ok (.if_icmp .ge 26, 3) := by decide +kernel
theorem dX9_trimFrom_7 : decode cX9_trimFrom 7 = .ok (.aload_n 0, 1) := by decide +kernel
theorem dX9_trimFrom_8 : decode cX9_trimFrom 8 = .ok (.getfield 7, 3) := by decide +kernel
theorem dX9_trimFrom_11 : decode cX9_trimFrom 11 = .ok (.sipush 8400, 3) := by decide +kernel
theorem dX9_trimFrom_14 : decode cX9_trimFrom 14 = .ok (.iload_n 3, 1) := by decide +kernel
theorem dX9_trimFrom_15 : decode cX9_trimFrom 15 = .ok (.iadd, 1) := by decide +kernel
theorem dX9_trimFrom_16 : decode cX9_trimFrom 16 = .ok (.laload, 1) := by decide +kernel
theorem dX9_trimFrom_17 : decode cX9_trimFrom 17 = .ok (.ldc2_w 173, 3) := by decide +kernel
theorem dX9_trimFrom_20 : decode cX9_trimFrom 20 = .ok (.lcmp, 1) := by decide +kernel
theorem dX9_trimFrom_21 : decode cX9_trimFrom 21 = .ok (.ifCond .ne 9, 3) := by decide +kernel
theorem dX9_trimFrom_24 : decode cX9_trimFrom 24 = .ok (.iinc 3 1, 3) := by decide +kernel
theorem dX9_trimFrom_27 : decode cX9_trimFrom 27 = .ok (.goto (-25), 3) := by decide +kernel
theorem dX9_trimFrom_30 : decode cX9_trimFrom 30 = .ok (.iload_n 3, 1) := by decide +kernel
theorem dX9_trimFrom_31 : decode cX9_trimFrom 31 = .ok (.ireturn, 1) := by decide +kernel
theorem dX9_trimTo_0 : decode cX9_trimTo 0 = .ok (.iload_n 2, 1) := by decide +kernel
theorem dX9_trimTo_1 : decode cX9_trimTo 1 = .ok (.istore_n 3, 1) := by decide +kernel
theorem dX9_trimTo_2 : decode cX9_trimTo 2 = .ok (.iload_n 3, 1) := by decide +kernel
theorem dX9_trimTo_3 : decode cX9_trimTo 3 = .ok (.iload_n 1, 1) := by decide +kernel
theorem dX9_trimTo_4 : decode cX9_trimTo 4 = .ok (.if_icmp .le 28, 3) := by decide +kernel
theorem dX9_trimTo_7 : decode cX9_trimTo 7 = .ok (.aload_n 0, 1) := by decide +kernel
theorem dX9_trimTo_8 : decode cX9_trimTo 8 = .ok (.getfield 7, 3) := by decide +kernel
theorem dX9_trimTo_11 : decode cX9_trimTo 11 = .ok (.sipush 8400, 3) := by decide +kernel
theorem dX9_trimTo_14 : decode cX9_trimTo 14 = .ok (.iload_n 3, 1) := by decide +kernel
theorem dX9_trimTo_15 : decode cX9_trimTo 15 = .ok (.iadd, 1) := by decide +kernel
theorem dX9_trimTo_16 : decode cX9_trimTo 16 = .ok (.iconst 1, 1) := by decide +kernel
theorem dX9_trimTo_17 : decode cX9_trimTo 17 = .ok (.isub, 1) := by decide +kernel
theorem dX9_trimTo_18 : decode cX9_trimTo 18 = .ok (.laload, 1) := by decide +kernel
theorem dX9_trimTo_19 : decode cX9_trimTo 19 = .ok (.ldc2_w 173, 3) := by decide +kernel
theorem dX9_trimTo_22 : decode cX9_trimTo 22 = .ok (.lcmp, 1) := by decide +kernel
theorem dX9_trimTo_23 : decode cX9_trimTo 23 = .ok (.ifCond .ne 9, 3) := by decide +kernel
theorem dX9_trimTo_26 : decode cX9_trimTo 26 = .ok (.iinc 3 (-1), 3) := by decide +kernel
theorem dX9_trimTo_29 : decode cX9_trimTo 29 = .ok (.goto (-27), 3) := by decide +kernel
theorem dX9_trimTo_32 : decode cX9_trimTo 32 = .ok (.iload_n 3, 1) := by decide +kernel
theorem dX9_trimTo_33 : decode cX9_trimTo 33 = .ok (.ireturn, 1) := by decide +kernel
theorem dX9_find_0 : decode cX9_find 0 = .ok (.iload_n 2, 1) := by decide +kernel
theorem dX9_find_1 : decode cX9_find 1 = .ok (.istore 4, 2) := by decide +kernel
theorem dX9_find_3 : decode cX9_find 3 = .ok (.iload 4, 2) := by decide +kernel
theorem dX9_find_5 : decode cX9_find 5 = .ok (.iload_n 3, 1) := by decide +kernel
theorem dX9_find_6 : decode cX9_find 6 = .ok (.if_icmp .ge 26, 3) := by decide +kernel
theorem dX9_find_9 : decode cX9_find 9 = .ok (.aload_n 0, 1) := by decide +kernel
theorem dX9_find_10 : decode cX9_find 10 = .ok (.getfield 7, 3) := by decide +kernel
theorem dX9_find_13 : decode cX9_find 13 = .ok (.sipush 8400, 3) := by decide +kernel
theorem dX9_find_16 : decode cX9_find 16 = .ok (.iload 4, 2) := by decide +kernel
theorem dX9_find_18 : decode cX9_find 18 = .ok (.iadd, 1) := by decide +kernel
theorem dX9_find_19 : decode cX9_find 19 = .ok (.laload, 1) := by decide +kernel
theorem dX9_find_20 : decode cX9_find 20 = .ok (.iload_n 1, 1) := by decide +kernel
theorem dX9_find_21 : decode cX9_find 21 = .ok (.i2l, 1) := by decide +kernel
theorem dX9_find_22 : decode cX9_find 22 = .ok (.lcmp, 1) := by decide +kernel
theorem dX9_find_23 : decode cX9_find 23 = .ok (.ifCond .eq 9, 3) := by decide +kernel
theorem dX9_find_26 : decode cX9_find 26 = .ok (.iinc 4 1, 3) := by decide +kernel
theorem dX9_find_29 : decode cX9_find 29 = .ok (.goto (-26), 3) := by decide +kernel
theorem dX9_find_32 : decode cX9_find 32 = .ok (.iload 4, 2) := by decide +kernel
theorem dX9_find_34 : decode cX9_find 34 = .ok (.ireturn, 1) := by decide +kernel
theorem dX9_isLikely_0 : decode cX9_isLikely 0 = .ok (.iload_n 2, 1) := by decide +kernel
theorem dX9_isLikely_1 : decode cX9_isLikely 1 = .ok (.iload_n 1, 1) := by decide +kernel
theorem dX9_isLikely_2 : decode cX9_isLikely 2 = .ok (.isub, 1) := by decide +kernel
theorem dX9_isLikely_3 : decode cX9_isLikely 3 = .ok (.aload_n 3, 1) := by decide +kernel
theorem dX9_isLikely_4 : decode cX9_isLikely 4 = .ok (.arraylength, 1) := by decide +kernel
theorem dX9_isLikely_5 : decode cX9_isLikely 5 = .ok (.if_icmp .ne 7, 3) := by decide +kernel
theorem dX9_isLikely_8 : decode cX9_isLikely 8 = .ok (.iconst 1, 1) := by decide +kernel
theorem dX9_isLikely_9 : decode cX9_isLikely 9 = .ok (.goto 4, 3) := by decide +kernel
theorem dX9_isLikely_12 : decode cX9_isLikely 12 = .ok (.iconst 0, 1) := by decide +kernel
theorem dX9_isLikely_13 : decode cX9_isLikely 13 = .ok (.istore 4, 2) := by decide +kernel
theorem dX9_isLikely_15 : decode cX9_isLikely 15 = .ok (.iconst 0, 1) := by decide +kernel
theorem dX9_isLikely_16 : decode cX9_isLikely 16 = .ok (.istore 5, 2) := by decide +kernel
theorem dX9_isLikely_18 : decode cX9_isLikely 18 = .ok (.iload 5, 2) := by decide +kernel
theorem dX9_isLikely_20 : decode cX9_isLikely 20 = .ok (.aload_n 3, 1) := by decide +kernel
theorem dX9_isLikely_21 : decode cX9_isLikely 21 = .ok (.arraylength, 1) := by decide +kernel
theorem dX9_isLikely_22 : decode cX9_isLikely 22 = .ok (.if_icmp .ge 70, 3) := by decide +kernel
theorem dX9_isLikely_25 : decode cX9_isLikely 25 = .ok (.iload 4, 2) := by decide +kernel
theorem dX9_isLikely_27 : decode cX9_isLikely 27 = .ok (.ifCond .eq 65, 3) := by decide +kernel
theorem dX9_isLikely_30 : decode cX9_isLikely 30 = .ok (.aload_n 0, 1) := by decide +kernel
theorem dX9_isLikely_31 : decode cX9_isLikely 31 = .ok (.getfield 7, 3) := by decide +kernel
theorem dX9_isLikely_34 : decode cX9_isLikely 34 = .ok (.sipush 8400, 3) := by decide +kernel
theorem dX9_isLikely_37 : decode cX9_isLikely 37 = .ok (.iload_n 1, 1) := by decide +kernel
theorem dX9_isLikely_38 : decode cX9_isLikely 38 = .ok (.iadd, 1) := by decide +kernel
theorem dX9_isLikely_39 : decode cX9_isLikely 39 = .ok (.iload 5, 2) := by decide +kernel
theorem dX9_isLikely_41 : decode cX9_isLikely 41 = .ok (.iadd, 1) := by decide +kernel
theorem dX9_isLikely_42 : decode cX9_isLikely 42 = .ok (.laload, 1) := by decide +kernel
theorem dX9_isLikely_43 : decode cX9_isLikely 43 = .ok (.lstore 6, 2) := by decide +kernel
theorem dX9_isLikely_45 : decode cX9_isLikely 45 = .ok (.lload 6, 2) := by decide +kernel
theorem dX9_isLikely_47 : decode cX9_isLikely 47 = .ok (.ldc2_w 179, 3) := by decide +kernel
theorem dX9_isLikely_50 : decode cX9_isLikely 50 = .ok (.ldc2_w 181, 3) := by decide +kernel
theorem dX9_isLikely_53 : decode cX9_isLikely 53 = .ok (.invokestatic 90, 3) := by decide +kernel
theorem dX9_isLikely_56 : decode cX9_isLikely 56 = .ok (.ifCond .eq 12, 3) := by decide +kernel
theorem dX9_isLikely_59 : decode cX9_isLikely 59 = .ok (.lload 6, 2) := by decide +kernel
theorem dX9_isLikely_61 : decode cX9_isLikely 61 = .ok (.ldc2_w 173, 3) := by decide +kernel
theorem dX9_isLikely_64 : decode cX9_isLikely 64 = .ok (.ladd, 1) := by decide +kernel
theorem dX9_isLikely_65 : decode cX9_isLikely 65 = .ok (.goto 5, 3) := by decide +kernel
theorem dX9_isLikely_68 : decode cX9_isLikely 68 = .ok (.lload 6, 2) := by decide +kernel
theorem dX9_isLikely_70 : decode cX9_isLikely 70 = .ok (.aload_n 3, 1) := by decide +kernel
theorem dX9_isLikely_71 : decode cX9_isLikely 71 = .ok (.iload 5, 2) := by decide +kernel
theorem dX9_isLikely_73 : decode cX9_isLikely 73 = .ok (.caload, 1) := by decide +kernel
theorem dX9_isLikely_74 : decode cX9_isLikely 74 = .ok (.i2l, 1) := by decide +kernel
theorem dX9_isLikely_75 : decode cX9_isLikely 75 = .ok (.lcmp, 1) := by decide +kernel
theorem dX9_isLikely_76 : decode cX9_isLikely 76 = .ok (.ifCond .ne 7, 3) := by decide +kernel
theorem dX9_isLikely_79 : decode cX9_isLikely 79 = .ok (.iconst 1, 1) := by decide +kernel
theorem dX9_isLikely_80 : decode cX9_isLikely 80 = .ok (.goto 4, 3) := by decide +kernel
theorem dX9_isLikely_83 : decode cX9_isLikely 83 = .ok (.iconst 0, 1) := by decide +kernel
theorem dX9_isLikely_84 : decode cX9_isLikely 84 = .ok (.istore 4, 2) := by decide +kernel
theorem dX9_isLikely_86 : decode cX9_isLikely 86 = .ok (.iinc 5 1, 3) := by decide +kernel
theorem dX9_isLikely_89 : decode cX9_isLikely 89 = .ok (.goto (-71), 3) := by decide +kernel
theorem dX9_isLikely_92 : decode cX9_isLikely 92 = .ok (.iload 4, 2) := by decide +kernel
theorem dX9_isLikely_94 : decode cX9_isLikely 94 = .ok (.ireturn, 1) := by decide +kernel
theorem dX9_isFigure_0 : decode cX9_isFigure 0 = .ok (.aload_n 0, 1) := by decide +kernel
theorem dX9_isFigure_1 : decode cX9_isFigure 1 = .ok (.getfield 7, 3) := by decide +kernel
theorem dX9_isFigure_4 : decode cX9_isFigure 4 = .ok (.sipush 8400, 3) := by decide +kernel
theorem dX9_isFigure_7 : decode cX9_isFigure 7 = .ok (.iload_n 1, 1) := by decide +kernel
theorem dX9_isFigure_8 : decode cX9_isFigure 8 = .ok (.iadd, 1) := by decide +kernel
theorem dX9_isFigure_9 : decode cX9_isFigure 9 = .ok (.laload, 1) := by decide +kernel
theorem dX9_isFigure_10 : decode cX9_isFigure 10 = .ok (.ldc2_w 94, 3) := by decide +kernel
theorem dX9_isFigure_13 : decode cX9_isFigure 13 = .ok (.ldc2_w 96, 3) := by decide +kernel
theorem dX9_isFigure_16 : decode cX9_isFigure 16 = .ok (.invokestatic 90, 3) := by decide +kernel
theorem dX9_isFigure_19 : decode cX9_isFigure 19 = .ok (.ireturn, 1) := by decide +kernel
theorem dX9_number_0 : decode cX9_number 0 = .ok (.lconst 0, 1) := by decide +kernel
theorem dX9_number_1 : decode cX9_number 1 = .ok (.lstore_n 3, 1) := by decide +kernel
theorem dX9_number_2 : decode cX9_number 2 = .ok (.iload_n 1, 1) := by decide +kernel
theorem dX9_number_3 : decode cX9_number 3 = .ok (.istore 5, 2) := by decide +kernel
theorem dX9_number_5 : decode cX9_number 5 = .ok (.iload 5, 2) := by decide +kernel
theorem dX9_number_7 : decode cX9_number 7 = .ok (.iload_n 2, 1) := by decide +kernel
theorem dX9_number_8 : decode cX9_number 8 = .ok (.if_icmp .ge 52, 3) := by decide +kernel
theorem dX9_number_11 : decode cX9_number 11 = .ok (.lload_n 3, 1) := by decide +kernel
theorem dX9_number_12 : decode cX9_number 12 = .ok (.lconst 0, 1) := by decide +kernel
theorem dX9_number_13 : decode cX9_number 13 = .ok (.lcmp, 1) := by decide +kernel
theorem dX9_number_14 : decode cX9_number 14 = .ok (.ifCond .lt 46, 3) := by decide +kernel
theorem dX9_number_17 : decode cX9_number 17 = .ok (.aload_n 0, 1) := by decide +kernel
theorem dX9_number_18 : decode cX9_number 18 = .ok (.iload 5, 2) := by decide +kernel
theorem dX9_number_20 : decode cX9_number 20 = .ok (.invokevirtual 183, 3) := by decide +kernel
theorem dX9_number_23 : decode cX9_number 23 = .ok (.ifCond .eq 27, 3) := by decide +kernel
theorem dX9_number_26 : decode cX9_number 26 = .ok (.ldc2_w 187, 3) := by decide +kernel
theorem dX9_number_29 : decode cX9_number 29 = .ok (.lload_n 3, 1) := by decide +kernel
theorem dX9_number_30 : decode cX9_number 30 = .ok (.lmul, 1) := by decide +kernel
theorem dX9_number_31 : decode cX9_number 31 = .ok (.aload_n 0, 1) := by decide +kernel
theorem dX9_number_32 : decode cX9_number 32 = .ok (.getfield 7, 3) := by decide +kernel
theorem dX9_number_35 : decode cX9_number 35 = .ok (.sipush 8400, 3) := by decide +kernel
theorem dX9_number_38 : decode cX9_number 38 = .ok (.iload 5, 2) := by decide +kernel
theorem dX9_number_40 : decode cX9_number 40 = .ok (.iadd, 1) := by decide +kernel
theorem dX9_number_41 : decode cX9_number 41 = .ok (.laload, 1) := by decide +kernel
theorem dX9_number_42 : decode cX9_number 42 = .ok (.ladd, 1) := by decide +kernel
theorem dX9_number_43 : decode cX9_number 43 = .ok (.ldc2_w 94, 3) := by decide +kernel
theorem dX9_number_46 : decode cX9_number 46 = .ok (.lsub, 1) := by decide +kernel
theorem dX9_number_47 : decode cX9_number 47 = .ok (.goto 6, 3) := by decide +kernel
theorem dX9_number_50 : decode cX9_number 50 = .ok (.ldc2_w 136, 3) := by decide +kernel
theorem dX9_number_53 : decode cX9_number 53 = .ok (.lstore_n 3, 1) := by decide +kernel
theorem dX9_number_54 : decode cX9_number 54 = .ok (.iinc 5 1, 3) := by decide +kernel
theorem dX9_number_57 : decode cX9_number 57 = .ok (.goto (-52), 3) := by decide +kernel
theorem dX9_number_60 : decode cX9_number 60 = .ok (.lload_n 3, 1) := by decide +kernel
theorem dX9_number_61 : decode cX9_number 61 = .ok (.lreturn, 1) := by decide +kernel
theorem dX9_isLeap_0 : decode cX9_isLeap 0 = .ok (.lload_n 0, 1) := by decide +kernel
theorem dX9_isLeap_1 : decode cX9_isLeap 1 = .ok (.ldc2_w 189, 3) := by decide +kernel
theorem dX9_isLeap_4 : decode cX9_isLeap 4 = .ok (.lrem, 1) := by decide +kernel
theorem dX9_isLeap_5 : decode cX9_isLeap 5 = .ok (.lconst 0, 1) := by decide +kernel
theorem dX9_isLeap_6 : decode cX9_isLeap 6 = .ok (.lcmp, 1) := by decide +kernel
theorem dX9_isLeap_7 : decode cX9_isLeap 7 = .ok (.ifCond .ne 27, 3) := by decide +kernel
theorem dX9_isLeap_10 : decode cX9_isLeap 10 = .ok (.lload_n 0, 1) := by decide +kernel
theorem dX9_isLeap_11 : decode cX9_isLeap 11 = .ok (.ldc2_w 191, 3) := by decide +kernel
theorem dX9_isLeap_14 : decode cX9_isLeap 14 = .ok (.lrem, 1) := by decide +kernel
theorem dX9_isLeap_15 : decode cX9_isLeap 15 = .ok (.lconst 0, 1) := by decide +kernel
theorem dX9_isLeap_16 : decode cX9_isLeap 16 = .ok (.lcmp, 1) := by decide +kernel
theorem dX9_isLeap_17 : decode cX9_isLeap 17 = .ok (.ifCond .ne 13, 3) := by decide +kernel
theorem dX9_isLeap_20 : decode cX9_isLeap 20 = .ok (.lload_n 0, 1) := by decide +kernel
theorem dX9_isLeap_21 : decode cX9_isLeap 21 = .ok (.ldc2_w 193, 3) := by decide +kernel
theorem dX9_isLeap_24 : decode cX9_isLeap 24 = .ok (.lrem, 1) := by decide +kernel
theorem dX9_isLeap_25 : decode cX9_isLeap 25 = .ok (.lconst 0, 1) := by decide +kernel
theorem dX9_isLeap_26 : decode cX9_isLeap 26 = .ok (.lcmp, 1) := by decide +kernel
theorem dX9_isLeap_27 : decode cX9_isLeap 27 = .ok (.ifCond .ne 7, 3) := by decide +kernel
theorem dX9_isLeap_30 : decode cX9_isLeap 30 = .ok (.iconst 1, 1) := by decide +kernel
theorem dX9_isLeap_31 : decode cX9_isLeap 31 = .ok (.goto 4, 3) := by decide +kernel
theorem dX9_isLeap_34 : decode cX9_isLeap 34 = .ok (.iconst 0, 1) := by decide +kernel
theorem dX9_isLeap_35 : decode cX9_isLeap 35 = .ok (.ireturn, 1) := by decide +kernel
theorem dX9_daysOf_0 : decode cX9_daysOf 0 = .ok (.lload_n 0, 1) := by decide +kernel
theorem dX9_daysOf_1 : decode cX9_daysOf 1 = .ok (.ldc2_w 195, 3) := by decide +kernel
theorem dX9_daysOf_4 : decode cX9_daysOf 4 = .ok (.lcmp, 1) := by decide +kernel
theorem dX9_daysOf_5 : decode cX9_daysOf 5 = .ok (.ifCond .ne 22, 3) := by decide +kernel
theorem dX9_daysOf_8 : decode cX9_daysOf 8 = .ok (.lload_n 2, 1) := by decide +kernel
theorem dX9_daysOf_9 : decode cX9_daysOf 9 = .ok (.invokestatic 197, 3) := by decide +kernel
theorem dX9_daysOf_12 : decode cX9_daysOf 12 = .ok (.ifCond .eq 9, 3) := by decide +kernel
theorem dX9_daysOf_15 : decode cX9_daysOf 15 = .ok (.ldc2_w 200, 3) := by decide +kernel
theorem dX9_daysOf_18 : decode cX9_daysOf 18 = .ok (.goto 50, 3) := by decide +kernel
theorem dX9_daysOf_21 : decode cX9_daysOf 21 = .ok (.ldc2_w 202, 3) := by decide +kernel
theorem dX9_daysOf_24 : decode cX9_daysOf 24 = .ok (.goto 44, 3) := by decide +kernel
theorem dX9_daysOf_27 : decode cX9_daysOf 27 = .ok (.lload_n 0, 1) := by decide +kernel
theorem dX9_daysOf_28 : decode cX9_daysOf 28 = .ok (.ldc2_w 189, 3) := by decide +kernel
theorem dX9_daysOf_31 : decode cX9_daysOf 31 = .ok (.lcmp, 1) := by decide +kernel
theorem dX9_daysOf_32 : decode cX9_daysOf 32 = .ok (.ifCond .eq 27, 3) := by decide +kernel
theorem dX9_daysOf_35 : decode cX9_daysOf 35 = .ok (.lload_n 0, 1) := by decide +kernel
theorem dX9_daysOf_36 : decode cX9_daysOf 36 = .ok (.ldc2_w 177, 3) := by decide +kernel
theorem dX9_daysOf_39 : decode cX9_daysOf 39 = .ok (.lcmp, 1) := by decide +kernel
theorem dX9_daysOf_40 : decode cX9_daysOf 40 = .ok (.ifCond .eq 19, 3) := by decide +kernel
theorem dX9_daysOf_43 : decode cX9_daysOf 43 = .ok (.lload_n 0, 1) := by decide +kernel
theorem dX9_daysOf_44 : decode cX9_daysOf 44 = .ok (.ldc2_w 204, 3) := by decide +kernel
theorem dX9_daysOf_47 : decode cX9_daysOf 47 = .ok (.lcmp, 1) := by decide +kernel
theorem dX9_daysOf_48 : decode cX9_daysOf 48 = .ok (.ifCond .eq 11, 3) := by decide +kernel
theorem dX9_daysOf_51 : decode cX9_daysOf 51 = .ok (.lload_n 0, 1) := by decide +kernel
theorem dX9_daysOf_52 : decode cX9_daysOf 52 = .ok (.ldc2_w 206, 3) := by decide +kernel
theorem dX9_daysOf_55 : decode cX9_daysOf 55 = .ok (.lcmp, 1) := by decide +kernel
theorem dX9_daysOf_56 : decode cX9_daysOf 56 = .ok (.ifCond .ne 9, 3) := by decide +kernel
theorem dX9_daysOf_59 : decode cX9_daysOf 59 = .ok (.ldc2_w 100, 3) := by decide +kernel
theorem dX9_daysOf_62 : decode cX9_daysOf 62 = .ok (.goto 6, 3) := by decide +kernel
theorem dX9_daysOf_65 : decode cX9_daysOf 65 = .ok (.ldc2_w 208, 3) := by decide +kernel
theorem dX9_daysOf_68 : decode cX9_daysOf 68 = .ok (.lreturn, 1) := by decide +kernel
theorem dX9_monthAt_0 : decode cX9_monthAt 0 = .ok (.iconst 0, 1) := by decide +kernel
theorem dX9_monthAt_1 : decode cX9_monthAt 1 = .ok (.istore_n 2, 1) := by decide +kernel
theorem dX9_monthAt_2 : decode cX9_monthAt 2 = .ok (.iload_n 2, 1) := by decide +kernel
theorem dX9_monthAt_3 : decode cX9_monthAt 3 = .ok (.bipush 12, 2) := by decide +kernel
theorem dX9_monthAt_5 : decode cX9_monthAt 5 = .ok (.if_icmp .ge 91, 3) := by decide +kernel
theorem dX9_monthAt_8 : decode cX9_monthAt 8 = .ok (.aload_n 0, 1) := by decide +kernel
theorem dX9_monthAt_9 : decode cX9_monthAt 9 = .ok (.getfield 7, 3) := by decide +kernel
theorem dX9_monthAt_12 : decode cX9_monthAt 12 = .ok (.sipush 8400, 3) := by decide +kernel
theorem dX9_monthAt_15 : decode cX9_monthAt 15 = .ok (.iload_n 1, 1) := by decide +kernel
theorem dX9_monthAt_16 : decode cX9_monthAt 16 = .ok (.iadd, 1) := by decide +kernel
theorem dX9_monthAt_17 : decode cX9_monthAt 17 = .ok (.laload, 1) := by decide +kernel
theorem dX9_monthAt_18 : decode cX9_monthAt 18 = .ok (.aload_n 0, 1) := by decide +kernel
theorem dX9_monthAt_19 : decode cX9_monthAt 19 = .ok (.getfield 75, 3) := by decide +kernel
theorem dX9_monthAt_22 : decode cX9_monthAt 22 = .ok (.iconst 3, 1) := by decide +kernel
theorem dX9_monthAt_23 : decode cX9_monthAt 23 = .ok (.iload_n 2, 1) := by decide +kernel
theorem dX9_monthAt_24 : decode cX9_monthAt 24 = .ok (.imul, 1) := by decide +kernel
theorem dX9_monthAt_25 : decode cX9_monthAt 25 = .ok (.caload, 1) := by decide +kernel
theorem dX9_monthAt_26 : decode cX9_monthAt 26 = .ok (.i2l, 1) := by decide +kernel
theorem dX9_monthAt_27 : decode cX9_monthAt 27 = .ok (.lcmp, 1) := by decide +kernel
theorem dX9_monthAt_28 : decode cX9_monthAt 28 = .ok (.ifCond .ne 62, 3) := by decide +kernel
theorem dX9_monthAt_31 : decode cX9_monthAt 31 = .ok (.aload_n 0, 1) := by decide +kernel
theorem dX9_monthAt_32 : decode cX9_monthAt 32 = .ok (.getfield 7, 3) := by decide +kernel
theorem dX9_monthAt_35 : decode cX9_monthAt 35 = .ok (.sipush 8400, 3) := by decide +kernel
theorem dX9_monthAt_38 : decode cX9_monthAt 38 = .ok (.iload_n 1, 1) := by decide +kernel
theorem dX9_monthAt_39 : decode cX9_monthAt 39 = .ok (.iadd, 1) := by decide +kernel
theorem dX9_monthAt_40 : decode cX9_monthAt 40 = .ok (.iconst 1, 1) := by decide +kernel
theorem dX9_monthAt_41 : decode cX9_monthAt 41 = .ok (.iadd, 1) := by decide +kernel
theorem dX9_monthAt_42 : decode cX9_monthAt 42 = .ok (.laload, 1) := by decide +kernel
theorem dX9_monthAt_43 : decode cX9_monthAt 43 = .ok (.aload_n 0, 1) := by decide +kernel
theorem dX9_monthAt_44 : decode cX9_monthAt 44 = .ok (.getfield 75, 3) := by decide +kernel
theorem dX9_monthAt_47 : decode cX9_monthAt 47 = .ok (.iconst 3, 1) := by decide +kernel
theorem dX9_monthAt_48 : decode cX9_monthAt 48 = .ok (.iload_n 2, 1) := by decide +kernel
theorem dX9_monthAt_49 : decode cX9_monthAt 49 = .ok (.imul, 1) := by decide +kernel
theorem dX9_monthAt_50 : decode cX9_monthAt 50 = .ok (.iconst 1, 1) := by decide +kernel
theorem dX9_monthAt_51 : decode cX9_monthAt 51 = .ok (.iadd, 1) := by decide +kernel
theorem dX9_monthAt_52 : decode cX9_monthAt 52 = .ok (.caload, 1) := by decide +kernel
theorem dX9_monthAt_53 : decode cX9_monthAt 53 = .ok (.i2l, 1) := by decide +kernel
theorem dX9_monthAt_54 : decode cX9_monthAt 54 = .ok (.lcmp, 1) := by decide +kernel
theorem dX9_monthAt_55 : decode cX9_monthAt 55 = .ok (.ifCond .ne 35, 3) := by decide +kernel
theorem dX9_monthAt_58 : decode cX9_monthAt 58 = .ok (.aload_n 0, 1) := by decide +kernel
theorem dX9_monthAt_59 : decode cX9_monthAt 59 = .ok (.getfield 7, 3) := by decide +kernel
theorem dX9_monthAt_62 : decode cX9_monthAt 62 = .ok (.sipush 8400, 3) := by decide +kernel
theorem dX9_monthAt_65 : decode cX9_monthAt 65 = .ok (.iload_n 1, 1) := by decide +kernel
theorem dX9_monthAt_66 : decode cX9_monthAt 66 = .ok (.iadd, 1) := by decide +kernel
theorem dX9_monthAt_67 : decode cX9_monthAt 67 = .ok (.iconst 2, 1) := by decide +kernel
theorem dX9_monthAt_68 : decode cX9_monthAt 68 = .ok (.iadd, 1) := by decide +kernel
theorem dX9_monthAt_69 : decode cX9_monthAt 69 = .ok (.laload, 1) := by decide +kernel
theorem dX9_monthAt_70 : decode cX9_monthAt 70 = .ok (.aload_n 0, 1) := by decide +kernel
theorem dX9_monthAt_71 : decode cX9_monthAt 71 = .ok (.getfield 75, 3) := by decide +kernel
theorem dX9_monthAt_74 : decode cX9_monthAt 74 = .ok (.iconst 3, 1) := by decide +kernel
theorem dX9_monthAt_75 : decode cX9_monthAt 75 = .ok (.iload_n 2, 1) := by decide +kernel
theorem dX9_monthAt_76 : decode cX9_monthAt 76 = .ok (.imul, 1) := by decide +kernel
theorem dX9_monthAt_77 : decode cX9_monthAt 77 = .ok (.iconst 2, 1) := by decide +kernel
theorem dX9_monthAt_78 : decode cX9_monthAt 78 = .ok (.iadd, 1) := by decide +kernel
theorem dX9_monthAt_79 : decode cX9_monthAt 79 = .ok (.caload, 1) := by decide +kernel
theorem dX9_monthAt_80 : decode cX9_monthAt 80 = .ok (.i2l, 1) := by decide +kernel
theorem dX9_monthAt_81 : decode cX9_monthAt 81 = .ok (.lcmp, 1) := by decide +kernel
theorem dX9_monthAt_82 : decode cX9_monthAt 82 = .ok (.ifCond .ne 8, 3) := by decide +kernel
theorem dX9_monthAt_85 : decode cX9_monthAt 85 = .ok (.iload_n 2, 1) := by decide +kernel
theorem dX9_monthAt_86 : decode cX9_monthAt 86 = .ok (.i2l, 1) := by decide +kernel
theorem dX9_monthAt_87 : decode cX9_monthAt 87 = .ok (.lconst 1, 1) := by decide +kernel
theorem dX9_monthAt_88 : decode cX9_monthAt 88 = .ok (.ladd, 1) := by decide +kernel
theorem dX9_monthAt_89 : decode cX9_monthAt 89 = .ok (.lreturn, 1) := by decide +kernel
theorem dX9_monthAt_90 : decode cX9_monthAt 90 = .ok (.iinc 2 1, 3) := by decide +kernel
theorem dX9_monthAt_93 : decode cX9_monthAt 93 = .ok (.goto (-91), 3) := by decide +kernel
theorem dX9_monthAt_96 : decode cX9_monthAt 96 = .ok (.lconst 0, 1) := by decide +kernel
theorem dX9_monthAt_97 : decode cX9_monthAt 97 = .ok (.lreturn, 1) := by decide +kernel
theorem dX9_readsDate_0 : decode cX9_readsDate 0 = .ok (.iload_n 2, 1) := by decide +kernel
theorem dX9_readsDate_1 : decode cX9_readsDate 1 = .ok (.iload_n 1, 1) := by decide +kernel
theorem dX9_readsDate_2 : decode cX9_readsDate 2 = .ok (.isub, 1) := by decide +kernel
theorem dX9_readsDate_3 : decode cX9_readsDate 3 = .ok (.bipush 20, 2) := by decide +kernel
theorem dX9_readsDate_5 : decode cX9_readsDate 5 = .ok (.if_icmp .ne 102, 3) := by decide +kernel
theorem dX9_readsDate_8 : decode cX9_readsDate 8 = .ok (.aload_n 0, 1) := by decide +kernel
theorem dX9_readsDate_9 : decode cX9_readsDate 9 = .ok (.getfield 7, 3) := by decide +kernel
theorem dX9_readsDate_12 : decode cX9_readsDate 12 = .ok (.sipush 8400, 3) := by decide +kernel
theorem dX9_readsDate_15 : decode cX9_readsDate 15 = .ok (.iload_n 1, 1) := by decide +kernel
theorem dX9_readsDate_16 : decode cX9_readsDate 16 = .ok (.iadd, 1) := by decide +kernel
theorem dX9_readsDate_17 : decode cX9_readsDate 17 = .ok (.iconst 2, 1) := by decide +kernel
theorem dX9_readsDate_18 : decode cX9_readsDate 18 = .ok (.iadd, 1) := by decide +kernel
theorem dX9_readsDate_19 : decode cX9_readsDate 19 = .ok (.laload, 1) := by decide +kernel
theorem dX9_readsDate_20 : decode cX9_readsDate 20 = .ok (.ldc2_w 173, 3) := by decide +kernel
theorem dX9_readsDate_23 : decode cX9_readsDate 23 = .ok (.lcmp, 1) := by decide +kernel
theorem dX9_readsDate_24 : decode cX9_readsDate 24 = .ok (.ifCond .ne 83, 3) := by decide +kernel
theorem dX9_readsDate_27 : decode cX9_readsDate 27 = .ok (.aload_n 0, 1) := by decide +kernel
theorem dX9_readsDate_28 : decode cX9_readsDate 28 = .ok (.getfield 7, 3) := by decide +kernel
theorem dX9_readsDate_31 : decode cX9_readsDate 31 = .ok (.sipush 8400, 3) := by decide +kernel
theorem dX9_readsDate_34 : decode cX9_readsDate 34 = .ok (.iload_n 1, 1) := by decide +kernel
theorem dX9_readsDate_35 : decode cX9_readsDate 35 = .ok (.iadd, 1) := by decide +kernel
theorem dX9_readsDate_36 : decode cX9_readsDate 36 = .ok (.bipush 6, 2) := by decide +kernel
theorem dX9_readsDate_38 : decode cX9_readsDate 38 = .ok (.iadd, 1) := by decide +kernel
theorem dX9_readsDate_39 : decode cX9_readsDate 39 = .ok (.laload, 1) := by decide +kernel
theorem dX9_readsDate_40 : decode cX9_readsDate 40 = .ok (.ldc2_w 173, 3) := by decide +kernel
theorem dX9_readsDate_43 : decode cX9_readsDate 43 = .ok (.lcmp, 1) := by decide +kernel
theorem dX9_readsDate_44 : decode cX9_readsDate 44 = .ok (.ifCond .ne 63, 3) := by decide +kernel
theorem dX9_readsDate_47 : decode cX9_readsDate 47 = .ok (.aload_n 0, 1) := by decide +kernel
theorem dX9_readsDate_48 : decode cX9_readsDate 48 = .ok (.getfield 7, 3) := by decide +kernel
theorem dX9_readsDate_51 : decode cX9_readsDate 51 = .ok (.sipush 8400, 3) := by decide +kernel
theorem dX9_readsDate_54 : decode cX9_readsDate 54 = .ok (.iload_n 1, 1) := by decide +kernel
theorem dX9_readsDate_55 : decode cX9_readsDate 55 = .ok (.iadd, 1) := by decide +kernel
theorem dX9_readsDate_56 : decode cX9_readsDate 56 = .ok (.bipush 11, 2) := by decide +kernel
theorem dX9_readsDate_58 : decode cX9_readsDate 58 = .ok (.iadd, 1) := by decide +kernel
theorem dX9_readsDate_59 : decode cX9_readsDate 59 = .ok (.laload, 1) := by decide +kernel
theorem dX9_readsDate_60 : decode cX9_readsDate 60 = .ok (.ldc2_w 173, 3) := by decide +kernel
theorem dX9_readsDate_63 : decode cX9_readsDate 63 = .ok (.lcmp, 1) := by decide +kernel
theorem dX9_readsDate_64 : decode cX9_readsDate 64 = .ok (.ifCond .ne 43, 3) := by decide +kernel
theorem dX9_readsDate_67 : decode cX9_readsDate 67 = .ok (.aload_n 0, 1) := by decide +kernel
theorem dX9_readsDate_68 : decode cX9_readsDate 68 = .ok (.getfield 7, 3) := by decide +kernel
theorem dX9_readsDate_71 : decode cX9_readsDate 71 = .ok (.sipush 8400, 3) := by decide +kernel
theorem dX9_readsDate_74 : decode cX9_readsDate 74 = .ok (.iload_n 1, 1) := by decide +kernel
theorem dX9_readsDate_75 : decode cX9_readsDate 75 = .ok (.iadd, 1) := by decide +kernel
theorem dX9_readsDate_76 : decode cX9_readsDate 76 = .ok (.bipush 14, 2) := by decide +kernel
theorem dX9_readsDate_78 : decode cX9_readsDate 78 = .ok (.iadd, 1) := by decide +kernel
theorem dX9_readsDate_79 : decode cX9_readsDate 79 = .ok (.laload, 1) := by decide +kernel
theorem dX9_readsDate_80 : decode cX9_readsDate 80 = .ok (.ldc2_w 210, 3) := by decide +kernel
theorem dX9_readsDate_83 : decode cX9_readsDate 83 = .ok (.lcmp, 1) := by decide +kernel
theorem dX9_readsDate_84 : decode cX9_readsDate 84 = .ok (.ifCond .ne 23, 3) := by decide +kernel
theorem dX9_readsDate_87 : decode cX9_readsDate 87 = .ok (.aload_n 0, 1) := by decide +kernel
theorem dX9_readsDate_88 : decode cX9_readsDate 88 = .ok (.getfield 7, 3) := by decide +kernel
theorem dX9_readsDate_91 : decode cX9_readsDate 91 = .ok (.sipush 8400, 3) := by decide +kernel
theorem dX9_readsDate_94 : decode cX9_readsDate 94 = .ok (.iload_n 1, 1) := by decide +kernel
theorem dX9_readsDate_95 : decode cX9_readsDate 95 = .ok (.iadd, 1) := by decide +kernel
theorem dX9_readsDate_96 : decode cX9_readsDate 96 = .ok (.bipush 17, 2) := by decide +kernel
theorem dX9_readsDate_98 : decode cX9_readsDate 98 = .ok (.iadd, 1) := by decide +kernel
theorem dX9_readsDate_99 : decode cX9_readsDate 99 = .ok (.laload, 1) := by decide +kernel
theorem dX9_readsDate_100 : decode cX9_readsDate 100 = .ok (.ldc2_w 210, 3) := by decide +kernel
theorem dX9_readsDate_103 : decode cX9_readsDate 103 = .ok (.lcmp, 1) := by decide +kernel
theorem dX9_readsDate_104 : decode cX9_readsDate 104 = .ok (.ifCond .eq 4, 3) := by decide +kernel
theorem dX9_readsDate_107 : decode cX9_readsDate 107 = .ok (.return_, 1) := by decide +kernel
theorem dX9_readsDate_108 : decode cX9_readsDate 108 = .ok (.aload_n 0, 1) := by decide +kernel
theorem dX9_readsDate_109 : decode cX9_readsDate 109 = .ok (.iload_n 1, 1) := by decide +kernel
theorem dX9_readsDate_110 : decode cX9_readsDate 110 = .ok (.iload_n 1, 1) := by decide +kernel
theorem dX9_readsDate_111 : decode cX9_readsDate 111 = .ok (.iconst 2, 1) := by decide +kernel
theorem dX9_readsDate_112 : decode cX9_readsDate 112 = .ok (.iadd, 1) := by decide +kernel
theorem dX9_readsDate_113 : decode cX9_readsDate 113 = .ok (.invokevirtual 212, 3) := by decide +kernel
theorem dX9_readsDate_116 : decode cX9_readsDate 116 = .ok (.lstore_n 3, 1) := by decide +kernel
theorem dX9_readsDate_117 : decode cX9_readsDate 117 = .ok (.aload_n 0, 1) := by decide +kernel
theorem dX9_readsDate_118 : decode cX9_readsDate 118 = .ok (.iload_n 1, 1) := by decide +kernel
theorem dX9_readsDate_119 : decode cX9_readsDate 119 = .ok (.iconst 3, 1) := by decide +kernel
theorem dX9_readsDate_120 : decode cX9_readsDate 120 = .ok (.iadd, 1) := by decide +kernel
theorem dX9_readsDate_121 : decode cX9_readsDate 121 = .ok (.invokevirtual 216, 3) := by decide +kernel
theorem dX9_readsDate_124 : decode cX9_readsDate 124 = .ok (.lstore 5, 2) := by decide +kernel
theorem dX9_readsDate_126 : decode cX9_readsDate 126 = .ok (.aload_n 0, 1) := by decide +kernel
theorem dX9_readsDate_127 : decode cX9_readsDate 127 = .ok (.iload_n 1, 1) := by decide +kernel
theorem dX9_readsDate_128 : decode cX9_readsDate 128 = .ok (.bipush 7, 2) := by decide +kernel
theorem dX9_readsDate_130 : decode cX9_readsDate 130 = .ok (.iadd, 1) := by decide +kernel
theorem dX9_readsDate_131 : decode cX9_readsDate 131 = .ok (.iload_n 1, 1) := by decide +kernel
theorem dX9_readsDate_132 : decode cX9_readsDate 132 = .ok (.bipush 11, 2) := by decide +kernel
theorem dX9_readsDate_134 : decode cX9_readsDate 134 = .ok (.iadd, 1) := by decide +kernel
theorem dX9_readsDate_135 : decode cX9_readsDate 135 = .ok (.invokevirtual 212, 3) := by decide +kernel
theorem dX9_readsDate_138 : decode cX9_readsDate 138 = .ok (.lstore 7, 2) := by decide +kernel
theorem dX9_readsDate_140 : decode cX9_readsDate 140 = .ok (.aload_n 0, 1) := by decide +kernel
theorem dX9_readsDate_141 : decode cX9_readsDate 141 = .ok (.iload_n 1, 1) := by decide +kernel
theorem dX9_readsDate_142 : decode cX9_readsDate 142 = .ok (.bipush 12, 2) := by decide +kernel
theorem dX9_readsDate_144 : decode cX9_readsDate 144 = .ok (.iadd, 1) := by decide +kernel
theorem dX9_readsDate_145 : decode cX9_readsDate 145 = .ok (.iload_n 1, 1) := by decide +kernel
theorem dX9_readsDate_146 : decode cX9_readsDate 146 = .ok (.bipush 14, 2) := by decide +kernel
theorem dX9_readsDate_148 : decode cX9_readsDate 148 = .ok (.iadd, 1) := by decide +kernel
theorem dX9_readsDate_149 : decode cX9_readsDate 149 = .ok (.invokevirtual 212, 3) := by decide +kernel
theorem dX9_readsDate_152 : decode cX9_readsDate 152 = .ok (.lstore 9, 2) := by decide +kernel
theorem dX9_readsDate_154 : decode cX9_readsDate 154 = .ok (.aload_n 0, 1) := by decide +kernel
theorem dX9_readsDate_155 : decode cX9_readsDate 155 = .ok (.iload_n 1, 1) := by decide +kernel
theorem dX9_readsDate_156 : decode cX9_readsDate 156 = .ok (.bipush 15, 2) := by decide +kernel
theorem dX9_readsDate_158 : decode cX9_readsDate 158 = .ok (.iadd, 1) := by decide +kernel
theorem dX9_readsDate_159 : decode cX9_readsDate 159 = .ok (.iload_n 1, 1) := by decide +kernel
theorem dX9_readsDate_160 : decode cX9_readsDate 160 = .ok (.bipush 17, 2) := by decide +kernel
theorem dX9_readsDate_162 : decode cX9_readsDate 162 = .ok (.iadd, 1) := by decide +kernel
theorem dX9_readsDate_163 : decode cX9_readsDate 163 = .ok (.invokevirtual 212, 3) := by decide +kernel
theorem dX9_readsDate_166 : decode cX9_readsDate 166 = .ok (.lstore 11, 2) := by decide +kernel
theorem dX9_readsDate_168 : decode cX9_readsDate 168 = .ok (.aload_n 0, 1) := by decide +kernel
theorem dX9_readsDate_169 : decode cX9_readsDate 169 = .ok (.iload_n 1, 1) := by decide +kernel
theorem dX9_readsDate_170 : decode cX9_readsDate 170 = .ok (.bipush 18, 2) := by decide +kernel
theorem dX9_readsDate_172 : decode cX9_readsDate 172 = .ok (.iadd, 1) := by decide +kernel
theorem dX9_readsDate_173 : decode cX9_readsDate 173 = .ok (.iload_n 1, 1) := by decide +kernel
theorem dX9_readsDate_174 : decode cX9_readsDate 174 = .ok (.bipush 20, 2) := by decide +kernel
theorem dX9_readsDate_176 : decode cX9_readsDate 176 = .ok (.iadd, 1) := by decide +kernel
theorem dX9_readsDate_177 : decode cX9_readsDate 177 = .ok (.invokevirtual 212, 3) := by decide +kernel
theorem dX9_readsDate_180 : decode cX9_readsDate 180 = .ok (.lstore 13, 2) := by decide +kernel
theorem dX9_readsDate_182 : decode cX9_readsDate 182 = .ok (.lload 5, 2) := by decide +kernel
theorem dX9_readsDate_184 : decode cX9_readsDate 184 = .ok (.lconst 0, 1) := by decide +kernel
theorem dX9_readsDate_185 : decode cX9_readsDate 185 = .ok (.lcmp, 1) := by decide +kernel
theorem dX9_readsDate_186 : decode cX9_readsDate 186 = .ok (.ifCond .eq 63, 3) := by decide +kernel
theorem dX9_readsDate_189 : decode cX9_readsDate 189 = .ok (.lload 7, 2) := by decide +kernel
theorem dX9_readsDate_191 : decode cX9_readsDate 191 = .ok (.ldc2_w 219, 3) := by decide +kernel
theorem dX9_readsDate_194 : decode cX9_readsDate 194 = .ok (.lcmp, 1) := by decide +kernel
theorem dX9_readsDate_195 : decode cX9_readsDate 195 = .ok (.ifCond .lt 54, 3) := by decide +kernel
theorem dX9_readsDate_198 : decode cX9_readsDate 198 = .ok (.lload_n 3, 1) := by decide +kernel
theorem dX9_readsDate_199 : decode cX9_readsDate 199 = .ok (.lconst 1, 1) := by decide +kernel
theorem dX9_readsDate_200 : decode cX9_readsDate 200 = .ok (.lload 5, 2) := by decide +kernel
theorem dX9_readsDate_202 : decode cX9_readsDate 202 = .ok (.lload 7, 2) := by decide +kernel
theorem dX9_readsDate_204 : decode cX9_readsDate 204 = .ok (.invokestatic 221, 3) := by decide +kernel
theorem dX9_readsDate_207 : decode cX9_readsDate 207 = .ok (.invokestatic 90, 3) := by decide +kernel
theorem dX9_readsDate_210 : decode cX9_readsDate 210 = .ok (.ifCond .eq 39, 3) := by decide +kernel
theorem dX9_readsDate_213 : decode cX9_readsDate 213 = .ok (.lload 9, 2) := by decide +kernel
theorem dX9_readsDate_215 : decode cX9_readsDate 215 = .ok (.lconst 0, 1) := by decide +kernel
theorem dX9_readsDate_216 : decode cX9_readsDate 216 = .ok (.ldc2_w 225, 3) := by decide +kernel
theorem dX9_readsDate_219 : decode cX9_readsDate 219 = .ok (.invokestatic 90, 3) := by decide +kernel
theorem dX9_readsDate_222 : decode cX9_readsDate 222 = .ok (.ifCond .eq 27, 3) := by decide +kernel
theorem dX9_readsDate_225 : decode cX9_readsDate 225 = .ok (.lload 11, 2) := by decide +kernel
theorem dX9_readsDate_227 : decode cX9_readsDate 227 = .ok (.lconst 0, 1) := by decide +kernel
theorem dX9_readsDate_228 : decode cX9_readsDate 228 = .ok (.ldc2_w 227, 3) := by decide +kernel
theorem dX9_readsDate_231 : decode cX9_readsDate 231 = .ok (.invokestatic 90, 3) := by decide +kernel
theorem dX9_readsDate_234 : decode cX9_readsDate 234 = .ok (.ifCond .eq 15, 3) := by decide +kernel
theorem dX9_readsDate_237 : decode cX9_readsDate 237 = .ok (.lload 13, 2) := by decide +kernel
theorem dX9_readsDate_239 : decode cX9_readsDate 239 = .ok (.lconst 0, 1) := by decide +kernel
theorem dX9_readsDate_240 : decode cX9_readsDate 240 = .ok (.ldc2_w 227, 3) := by decide +kernel
theorem dX9_readsDate_243 : decode cX9_readsDate 243 = .ok (.invokestatic 90, 3) := by decide +kernel
theorem dX9_readsDate_246 : decode cX9_readsDate 246 = .ok (.ifCond .ne 4, 3) := by decide +kernel
theorem dX9_readsDate_249 : decode cX9_readsDate 249 = .ok (.return_, 1) := by decide +kernel
theorem dX9_readsDate_250 : decode cX9_readsDate 250 = .ok (.lload_n 3, 1) := by decide +kernel
theorem dX9_readsDate_251 : decode cX9_readsDate 251 = .ok (.lconst 1, 1) := by decide +kernel
theorem dX9_readsDate_252 : decode cX9_readsDate 252 = .ok (.lsub, 1) := by decide +kernel
theorem dX9_readsDate_253 : decode cX9_readsDate 253 = .ok (.lstore 15, 2) := by decide +kernel
theorem dX9_readsDate_255 : decode cX9_readsDate 255 = .ok (.lconst 1, 1) := by decide +kernel
theorem dX9_readsDate_256 : decode cX9_readsDate 256 = .ok (.lstore 17, 2) := by decide +kernel
theorem dX9_readsDate_258 : decode cX9_readsDate 258 = .ok (.lload 17, 2) := by decide +kernel
theorem dX9_readsDate_260 : decode cX9_readsDate 260 = .ok (.lload 5, 2) := by decide +kernel
theorem dX9_readsDate_262 : decode cX9_readsDate 262 = .ok (.lcmp, 1) := by decide +kernel
theorem dX9_readsDate_263 : decode cX9_readsDate 263 = .ok (.ifCond .ge 24, 3) := by decide +kernel
theorem dX9_readsDate_266 : decode cX9_readsDate 266 = .ok (.lload 15, 2) := by decide +kernel
theorem dX9_readsDate_268 : decode cX9_readsDate 268 = .ok (.lload 17, 2) := by decide +kernel
theorem dX9_readsDate_270 : decode cX9_readsDate 270 = .ok (.lload 7, 2) := by decide +kernel
theorem dX9_readsDate_272 : decode cX9_readsDate 272 = .ok (.invokestatic 221, 3) := by decide +kernel
theorem dX9_readsDate_275 : decode cX9_readsDate 275 = .ok (.ladd, 1) := by decide +kernel
theorem dX9_readsDate_276 : decode cX9_readsDate 276 = .ok (.lstore 15, 2) := by decide +kernel
theorem dX9_readsDate_278 : decode cX9_readsDate 278 = .ok (.lload 17, 2) := by decide +kernel
theorem dX9_readsDate_280 : decode cX9_readsDate 280 = .ok (.lconst 1, 1) := by decide +kernel
theorem dX9_readsDate_281 : decode cX9_readsDate 281 = .ok (.ladd, 1) := by decide +kernel
theorem dX9_readsDate_282 : decode cX9_readsDate 282 = .ok (.lstore 17, 2) := by decide +kernel
theorem dX9_readsDate_284 : decode cX9_readsDate 284 = .ok (.goto (-26), 3) := by decide +kernel
theorem dX9_readsDate_287 : decode cX9_readsDate 287 = .ok (.ldc2_w 219, 3) := by decide +kernel
theorem dX9_readsDate_290 : decode cX9_readsDate 290 = .ok (.lstore 17, 2) := by decide +kernel
theorem dX9_readsDate_292 : decode cX9_readsDate 292 = .ok (.lload 17, 2) := by decide +kernel
theorem dX9_readsDate_294 : decode cX9_readsDate 294 = .ok (.lload 7, 2) := by decide +kernel
theorem dX9_readsDate_296 : decode cX9_readsDate 296 = .ok (.lcmp, 1) := by decide +kernel
theorem dX9_readsDate_297 : decode cX9_readsDate 297 = .ok (.ifCond .ge 34, 3) := by decide +kernel
theorem dX9_readsDate_300 : decode cX9_readsDate 300 = .ok (.lload 15, 2) := by decide +kernel
theorem dX9_readsDate_302 : decode cX9_readsDate 302 = .ok (.lload 17, 2) := by decide +kernel
theorem dX9_readsDate_304 : decode cX9_readsDate 304 = .ok (.invokestatic 197, 3) := by decide +kernel
theorem dX9_readsDate_307 : decode cX9_readsDate 307 = .ok (.ifCond .eq 9, 3) := by decide +kernel
theorem dX9_readsDate_310 : decode cX9_readsDate 310 = .ok (.ldc2_w 229, 3) := by decide +kernel
theorem dX9_readsDate_313 : decode cX9_readsDate 313 = .ok (.goto 6, 3) := by decide +kernel
theorem dX9_readsDate_316 : decode cX9_readsDate 316 = .ok (.ldc2_w 231, 3) := by decide +kernel
theorem dX9_readsDate_319 : decode cX9_readsDate 319 = .ok (.ladd, 1) := by decide +kernel
theorem dX9_readsDate_320 : decode cX9_readsDate 320 = .ok (.lstore 15, 2) := by decide +kernel
theorem dX9_readsDate_322 : decode cX9_readsDate 322 = .ok (.lload 17, 2) := by decide +kernel
theorem dX9_readsDate_324 : decode cX9_readsDate 324 = .ok (.lconst 1, 1) := by decide +kernel
theorem dX9_readsDate_325 : decode cX9_readsDate 325 = .ok (.ladd, 1) := by decide +kernel
theorem dX9_readsDate_326 : decode cX9_readsDate 326 = .ok (.lstore 17, 2) := by decide +kernel
theorem dX9_readsDate_328 : decode cX9_readsDate 328 = .ok (.goto (-36), 3) := by decide +kernel
theorem dX9_readsDate_331 : decode cX9_readsDate 331 = .ok (.aload_n 0, 1) := by decide +kernel
theorem dX9_readsDate_332 : decode cX9_readsDate 332 = .ok (.iconst 1, 1) := by decide +kernel
theorem dX9_readsDate_333 : decode cX9_readsDate 333 = .ok (.putfield 233, 3) := by decide +kernel
theorem dX9_readsDate_336 : decode cX9_readsDate 336 = .ok (.aload_n 0, 1) := by decide +kernel
theorem dX9_readsDate_337 : decode cX9_readsDate 337 = .ok (.ldc2_w 237, 3) := by decide +kernel
theorem dX9_readsDate_340 : decode cX9_readsDate 340 = .ok (.lload 15, 2) := by decide +kernel
theorem dX9_readsDate_342 : decode cX9_readsDate 342 = .ok (.lmul, 1) := by decide +kernel
theorem dX9_readsDate_343 : decode cX9_readsDate 343 = .ok (.ldc2_w 239, 3) := by decide +kernel
theorem dX9_readsDate_346 : decode cX9_readsDate 346 = .ok (.lload 9, 2) := by decide +kernel
theorem dX9_readsDate_348 : decode cX9_readsDate 348 = .ok (.lmul, 1) := by decide +kernel
theorem dX9_readsDate_349 : decode cX9_readsDate 349 = .ok (.ladd, 1) := by decide +kernel
theorem dX9_readsDate_350 : decode cX9_readsDate 350 = .ok (.ldc2_w 241, 3) := by decide +kernel
theorem dX9_readsDate_353 : decode cX9_readsDate 353 = .ok (.lload 11, 2) := by decide +kernel
theorem dX9_readsDate_355 : decode cX9_readsDate 355 = .ok (.lmul, 1) := by decide +kernel
theorem dX9_readsDate_356 : decode cX9_readsDate 356 = .ok (.ladd, 1) := by decide +kernel
theorem dX9_readsDate_357 : decode cX9_readsDate 357 = .ok (.lload 13, 2) := by decide +kernel
theorem dX9_readsDate_359 : decode cX9_readsDate 359 = .ok (.ladd, 1) := by decide +kernel
theorem dX9_readsDate_360 : decode cX9_readsDate 360 = .ok (.putfield 243, 3) := by decide +kernel
theorem dX9_readsDate_363 : decode cX9_readsDate 363 = .ok (.return_, 1) := by decide +kernel
theorem dX9_readsAge_0 : decode cX9_readsAge 0 = .ok (.iload_n 2, 1) := by decide +kernel
theorem dX9_readsAge_1 : decode cX9_readsAge 1 = .ok (.iload_n 1, 1) := by decide +kernel
theorem dX9_readsAge_2 : decode cX9_readsAge 2 = .ok (.if_icmp .le 24, 3) := by decide +kernel
theorem dX9_readsAge_5 : decode cX9_readsAge 5 = .ok (.aload_n 0, 1) := by decide +kernel
theorem dX9_readsAge_6 : decode cX9_readsAge 6 = .ok (.getfield 7, 3) := by decide +kernel
theorem dX9_readsAge_9 : decode cX9_readsAge 9 = .ok (.sipush 8400, 3) := by decide +kernel
theorem dX9_readsAge_12 : decode cX9_readsAge 12 = .ok (.iload_n 1, 1) := by decide +kernel
theorem dX9_readsAge_13 : decode cX9_readsAge 13 = .ok (.iadd, 1) := by decide +kernel
theorem dX9_readsAge_14 : decode cX9_readsAge 14 = .ok (.laload, 1) := by decide +kernel
theorem dX9_readsAge_15 : decode cX9_readsAge 15 = .ok (.ldc2_w 98, 3) := by decide +kernel
theorem dX9_readsAge_18 : decode cX9_readsAge 18 = .ok (.lcmp, 1) := by decide +kernel
theorem dX9_readsAge_19 : decode cX9_readsAge 19 = .ok (.ifCond .ne 7, 3) := by decide +kernel
theorem dX9_readsAge_22 : decode cX9_readsAge 22 = .ok (.iconst 1, 1) := by decide +kernel
theorem dX9_readsAge_23 : decode cX9_readsAge 23 = .ok (.goto 4, 3) := by decide +kernel
theorem dX9_readsAge_26 : decode cX9_readsAge 26 = .ok (.iconst 0, 1) := by decide +kernel
theorem dX9_readsAge_27 : decode cX9_readsAge 27 = .ok (.istore_n 3, 1) := by decide +kernel
theorem dX9_readsAge_28 : decode cX9_readsAge 28 = .ok (.iload_n 3, 1) := by decide +kernel
theorem dX9_readsAge_29 : decode cX9_readsAge 29 = .ok (.ifCond .eq 9, 3) := by decide +kernel
theorem dX9_readsAge_32 : decode cX9_readsAge 32 = .ok (.iload_n 1, 1) := by decide +kernel
theorem dX9_readsAge_33 : decode cX9_readsAge 33 = .ok (.iconst 1, 1) := by decide +kernel
theorem dX9_readsAge_34 : decode cX9_readsAge 34 = .ok (.iadd, 1) := by decide +kernel
theorem dX9_readsAge_35 : decode cX9_readsAge 35 = .ok (.goto 4, 3) := by decide +kernel
theorem dX9_readsAge_38 : decode cX9_readsAge 38 = .ok (.iload_n 1, 1) := by decide +kernel
theorem dX9_readsAge_39 : decode cX9_readsAge 39 = .ok (.istore 4, 2) := by decide +kernel
theorem dX9_readsAge_41 : decode cX9_readsAge 41 = .ok (.iload_n 2, 1) := by decide +kernel
theorem dX9_readsAge_42 : decode cX9_readsAge 42 = .ok (.iload 4, 2) := by decide +kernel
theorem dX9_readsAge_44 : decode cX9_readsAge 44 = .ok (.isub, 1) := by decide +kernel
theorem dX9_readsAge_45 : decode cX9_readsAge 45 = .ok (.i2l, 1) := by decide +kernel
theorem dX9_readsAge_46 : decode cX9_readsAge 46 = .ok (.lconst 1, 1) := by decide +kernel
theorem dX9_readsAge_47 : decode cX9_readsAge 47 = .ok (.ldc2_w 204, 3) := by decide +kernel
theorem dX9_readsAge_50 : decode cX9_readsAge 50 = .ok (.invokestatic 90, 3) := by decide +kernel
theorem dX9_readsAge_53 : decode cX9_readsAge 53 = .ok (.ifCond .eq 13, 3) := by decide +kernel
theorem dX9_readsAge_56 : decode cX9_readsAge 56 = .ok (.aload_n 0, 1) := by decide +kernel
theorem dX9_readsAge_57 : decode cX9_readsAge 57 = .ok (.iload 4, 2) := by decide +kernel
theorem dX9_readsAge_59 : decode cX9_readsAge 59 = .ok (.iload_n 2, 1) := by decide +kernel
theorem dX9_readsAge_60 : decode cX9_readsAge 60 = .ok (.invokevirtual 212, 3) := by decide +kernel
theorem dX9_readsAge_63 : decode cX9_readsAge 63 = .ok (.goto 6, 3) := by decide +kernel
theorem dX9_readsAge_66 : decode cX9_readsAge 66 = .ok (.ldc2_w 136, 3) := by decide +kernel
theorem dX9_readsAge_69 : decode cX9_readsAge 69 = .ok (.lstore 5, 2) := by decide +kernel
theorem dX9_readsAge_71 : decode cX9_readsAge 71 = .ok (.lload 5, 2) := by decide +kernel
theorem dX9_readsAge_73 : decode cX9_readsAge 73 = .ok (.lconst 0, 1) := by decide +kernel
theorem dX9_readsAge_74 : decode cX9_readsAge 74 = .ok (.lcmp, 1) := by decide +kernel
theorem dX9_readsAge_75 : decode cX9_readsAge 75 = .ok (.ifCond .lt 25, 3) := by decide +kernel
theorem dX9_readsAge_78 : decode cX9_readsAge 78 = .ok (.aload_n 0, 1) := by decide +kernel
theorem dX9_readsAge_79 : decode cX9_readsAge 79 = .ok (.iconst 1, 1) := by decide +kernel
theorem dX9_readsAge_80 : decode cX9_readsAge 80 = .ok (.putfield 247, 3) := by decide +kernel
theorem dX9_readsAge_83 : decode cX9_readsAge 83 = .ok (.aload_n 0, 1) := by decide +kernel
theorem dX9_readsAge_84 : decode cX9_readsAge 84 = .ok (.iload_n 3, 1) := by decide +kernel
theorem dX9_readsAge_85 : decode cX9_readsAge 85 = .ok (.ifCond .eq 10, 3) := by decide +kernel
theorem dX9_readsAge_88 : decode cX9_readsAge 88 = .ok (.lconst 0, 1) := by decide +kernel
theorem dX9_readsAge_89 : decode cX9_readsAge 89 = .ok (.lload 5, 2) := by decide +kernel
theorem dX9_readsAge_91 : decode cX9_readsAge 91 = .ok (.lsub, 1) := by decide +kernel
theorem dX9_readsAge_92 : decode cX9_readsAge 92 = .ok (.goto 5, 3) := by decide +kernel
theorem dX9_readsAge_95 : decode cX9_readsAge 95 = .ok (.lload 5, 2) := by decide +kernel
theorem dX9_readsAge_97 : decode cX9_readsAge 97 = .ok (.putfield 250, 3) := by decide +kernel
theorem dX9_readsAge_100 : decode cX9_readsAge 100 = .ok (.return_, 1) := by decide +kernel
theorem dX9_readsDomain_0 : decode cX9_readsDomain 0 = .ok (.iload_n 2, 1) := by decide +kernel
theorem dX9_readsDomain_1 : decode cX9_readsDomain 1 = .ok (.iload_n 1, 1) := by decide +kernel
theorem dX9_readsDomain_2 : decode cX9_readsDomain 2 = .ok (.if_icmp .eq 27, 3) := by decide +kernel
theorem dX9_readsDomain_5 : decode cX9_readsDomain 5 = .ok (.iload_n 2, 1) := by decide +kernel
theorem dX9_readsDomain_6 : decode cX9_readsDomain 6 = .ok (.iload_n 1, 1) := by decide +kernel
theorem dX9_readsDomain_7 : decode cX9_readsDomain 7 = .ok (.isub, 1) := by decide +kernel
theorem dX9_readsDomain_8 : decode cX9_readsDomain 8 = .ok (.iconst 1, 1) := by decide +kernel
theorem dX9_readsDomain_9 : decode cX9_readsDomain 9 = .ok (.if_icmp .ne 21, 3) := by decide +kernel
theorem dX9_readsDomain_12 : decode cX9_readsDomain 12 = .ok (.aload_n 0, 1) := by decide +kernel
theorem dX9_readsDomain_13 : decode cX9_readsDomain 13 = .ok (.getfield 7, 3) := by decide +kernel
theorem dX9_readsDomain_16 : decode cX9_readsDomain 16 = .ok (.sipush 8400, 3) := by decide +kernel
theorem dX9_readsDomain_19 : decode cX9_readsDomain 19 = .ok (.iload_n 1, 1) := by decide +kernel
theorem dX9_readsDomain_20 : decode cX9_readsDomain 20 = .ok (.iadd, 1) := by decide +kernel
theorem dX9_readsDomain_21 : decode cX9_readsDomain 21 = .ok (.laload, 1) := by decide +kernel
theorem dX9_readsDomain_22 : decode cX9_readsDomain 22 = .ok (.ldc2_w 102, 3) := by decide +kernel
theorem dX9_readsDomain_25 : decode cX9_readsDomain 25 = .ok (.lcmp, 1) := by decide +kernel
theorem dX9_readsDomain_26 : decode cX9_readsDomain 26 = .ok (.ifCond .ne 4, 3) := by decide +kernel
theorem dX9_readsDomain_29 : decode cX9_readsDomain 29 = .ok (.return_, 1) := by decide +kernel
theorem dX9_readsDomain_30 : decode cX9_readsDomain 30 = .ok (.aload_n 0, 1) := by decide +kernel
theorem dX9_readsDomain_31 : decode cX9_readsDomain 31 = .ok (.getfield 7, 3) := by decide +kernel
theorem dX9_readsDomain_34 : decode cX9_readsDomain 34 = .ok (.sipush 8400, 3) := by decide +kernel
theorem dX9_readsDomain_37 : decode cX9_readsDomain 37 = .ok (.iload_n 1, 1) := by decide +kernel
theorem dX9_readsDomain_38 : decode cX9_readsDomain 38 = .ok (.iadd, 1) := by decide +kernel
theorem dX9_readsDomain_39 : decode cX9_readsDomain 39 = .ok (.laload, 1) := by decide +kernel
theorem dX9_readsDomain_40 : decode cX9_readsDomain 40 = .ok (.ldc2_w 102, 3) := by decide +kernel
theorem dX9_readsDomain_43 : decode cX9_readsDomain 43 = .ok (.lcmp, 1) := by decide +kernel
theorem dX9_readsDomain_44 : decode cX9_readsDomain 44 = .ok (.ifCond .ne 9, 3) := by decide +kernel
theorem dX9_readsDomain_47 : decode cX9_readsDomain 47 = .ok (.iload_n 1, 1) := by decide +kernel
theorem dX9_readsDomain_48 : decode cX9_readsDomain 48 = .ok (.iconst 1, 1) := by decide +kernel
theorem dX9_readsDomain_49 : decode cX9_readsDomain 49 = .ok (.iadd, 1) := by decide +kernel
theorem dX9_readsDomain_50 : decode cX9_readsDomain 50 = .ok (.goto 4, 3) := by decide +kernel
theorem dX9_readsDomain_53 : decode cX9_readsDomain 53 = .ok (.iload_n 1, 1) := by decide +kernel
theorem dX9_readsDomain_54 : decode cX9_readsDomain 54 = .ok (.istore_n 3, 1) := by decide +kernel
theorem dX9_readsDomain_55 : decode cX9_readsDomain 55 = .ok (.aload_n 0, 1) := by decide +kernel
theorem dX9_readsDomain_56 : decode cX9_readsDomain 56 = .ok (.iconst 1, 1) := by decide +kernel
theorem dX9_readsDomain_57 : decode cX9_readsDomain 57 = .ok (.putfield 253, 3) := by decide +kernel
theorem dX9_readsDomain_60 : decode cX9_readsDomain 60 = .ok (.aload_n 0, 1) := by decide +kernel
theorem dX9_readsDomain_61 : decode cX9_readsDomain 61 = .ok (.iload_n 2, 1) := by decide +kernel
theorem dX9_readsDomain_62 : decode cX9_readsDomain 62 = .ok (.iload_n 3, 1) := by decide +kernel
theorem dX9_readsDomain_63 : decode cX9_readsDomain 63 = .ok (.isub, 1) := by decide +kernel
theorem dX9_readsDomain_64 : decode cX9_readsDomain 64 = .ok (.putfield 256, 3) := by decide +kernel
theorem dX9_readsDomain_67 : decode cX9_readsDomain 67 = .ok (.iconst 0, 1) := by decide +kernel
theorem dX9_readsDomain_68 : decode cX9_readsDomain 68 = .ok (.istore 4, 2) := by decide +kernel
theorem dX9_readsDomain_70 : decode cX9_readsDomain 70 = .ok (.iload 4, 2) := by decide +kernel
theorem dX9_readsDomain_72 : decode cX9_readsDomain 72 = .ok (.aload_n 0, 1) := by decide +kernel
theorem dX9_readsDomain_73 : decode cX9_readsDomain 73 = .ok (.getfield 256, 3) := by decide +kernel
theorem dX9_readsDomain_76 : decode cX9_readsDomain 76 = .ok (.if_icmp .ge 60, 3) := by decide +kernel
theorem dX9_readsDomain_79 : decode cX9_readsDomain 79 = .ok (.aload_n 0, 1) := by decide +kernel
theorem dX9_readsDomain_80 : decode cX9_readsDomain 80 = .ok (.getfield 7, 3) := by decide +kernel
theorem dX9_readsDomain_83 : decode cX9_readsDomain 83 = .ok (.sipush 8400, 3) := by decide +kernel
theorem dX9_readsDomain_86 : decode cX9_readsDomain 86 = .ok (.iload_n 3, 1) := by decide +kernel
theorem dX9_readsDomain_87 : decode cX9_readsDomain 87 = .ok (.iadd, 1) := by decide +kernel
theorem dX9_readsDomain_88 : decode cX9_readsDomain 88 = .ok (.iload 4, 2) := by decide +kernel
theorem dX9_readsDomain_90 : decode cX9_readsDomain 90 = .ok (.iadd, 1) := by decide +kernel
theorem dX9_readsDomain_91 : decode cX9_readsDomain 91 = .ok (.laload, 1) := by decide +kernel
theorem dX9_readsDomain_92 : decode cX9_readsDomain 92 = .ok (.lstore 5, 2) := by decide +kernel
theorem dX9_readsDomain_94 : decode cX9_readsDomain 94 = .ok (.aload_n 0, 1) := by decide +kernel
theorem dX9_readsDomain_95 : decode cX9_readsDomain 95 = .ok (.getfield 7, 3) := by decide +kernel
theorem dX9_readsDomain_98 : decode cX9_readsDomain 98 = .ok (.sipush 8800, 3) := by decide +kernel
theorem dX9_readsDomain_101 : decode cX9_readsDomain 101 = .ok (.iload 4, 2) := by decide +kernel
theorem dX9_readsDomain_103 : decode cX9_readsDomain 103 = .ok (.iadd, 1) := by decide +kernel
theorem dX9_readsDomain_104 : decode cX9_readsDomain 104 = .ok (.lload 5, 2) := by decide +kernel
theorem dX9_readsDomain_106 : decode cX9_readsDomain 106 = .ok (.ldc2_w 179, 3) := by decide +kernel
theorem dX9_readsDomain_109 : decode cX9_readsDomain 109 = .ok (.ldc2_w 181, 3) := by decide +kernel
theorem dX9_readsDomain_112 : decode cX9_readsDomain 112 = .ok (.invokestatic 90, 3) := by decide +kernel
theorem dX9_readsDomain_115 : decode cX9_readsDomain 115 = .ok (.ifCond .eq 12, 3) := by decide +kernel
theorem dX9_readsDomain_118 : decode cX9_readsDomain 118 = .ok (.lload 5, 2) := by decide +kernel
theorem dX9_readsDomain_120 : decode cX9_readsDomain 120 = .ok (.ldc2_w 173, 3) := by decide +kernel
theorem dX9_readsDomain_123 : decode cX9_readsDomain 123 = .ok (.ladd, 1) := by decide +kernel
theorem dX9_readsDomain_124 : decode cX9_readsDomain 124 = .ok (.goto 5, 3) := by decide +kernel
theorem dX9_readsDomain_127 : decode cX9_readsDomain 127 = .ok (.lload 5, 2) := by decide +kernel
theorem dX9_readsDomain_129 : decode cX9_readsDomain 129 = .ok (.lastore, 1) := by decide +kernel
theorem dX9_readsDomain_130 : decode cX9_readsDomain 130 = .ok (.iinc 4 1, 3) := by decide +kernel
theorem dX9_readsDomain_133 : decode cX9_readsDomain 133 = .ok (.goto (-63), 3) := by decide +kernel
theorem dX9_readsDomain_136 : decode cX9_readsDomain 136 = .ok (.return_, 1) := by decide +kernel
theorem dX9_readsChoice_0 : decode cX9_readsChoice 0 = .ok (.aload_n 0, 1) := by decide +kernel
theorem dX9_readsChoice_1 : decode cX9_readsChoice 1 = .ok (.iload_n 2, 1) := by decide +kernel
theorem dX9_readsChoice_2 : decode cX9_readsChoice 2 = .ok (.iload_n 3, 1) := by decide +kernel
theorem dX9_readsChoice_3 : decode cX9_readsChoice 3 = .ok (.aload 4, 2) := by decide +kernel
theorem dX9_readsChoice_5 : decode cX9_readsChoice 5 = .ok (.invokevirtual 259, 3) := by decide +kernel
theorem dX9_readsChoice_8 : decode cX9_readsChoice 8 = .ok (.ifCond .eq 7, 3) := by decide +kernel
theorem dX9_readsChoice_11 : decode cX9_readsChoice 11 = .ok (.iconst 0, 1) := by decide +kernel
theorem dX9_readsChoice_12 : decode cX9_readsChoice 12 = .ok (.goto 34, 3) := by decide +kernel
theorem dX9_readsChoice_15 : decode cX9_readsChoice 15 = .ok (.aload_n 0, 1) := by decide +kernel
theorem dX9_readsChoice_16 : decode cX9_readsChoice 16 = .ok (.iload_n 2, 1) := by decide +kernel
theorem dX9_readsChoice_17 : decode cX9_readsChoice 17 = .ok (.iload_n 3, 1) := by decide +kernel
theorem dX9_readsChoice_18 : decode cX9_readsChoice 18 = .ok (.aload 5, 2) := by decide +kernel
theorem dX9_readsChoice_20 : decode cX9_readsChoice 20 = .ok (.invokevirtual 259, 3) := by decide +kernel
theorem dX9_readsChoice_23 : decode cX9_readsChoice 23 = .ok (.ifCond .eq 7, 3) := by decide +kernel
theorem dX9_readsChoice_26 : decode cX9_readsChoice 26 = .ok (.iconst 1, 1) := by decide +kernel
theorem dX9_readsChoice_27 : decode cX9_readsChoice 27 = .ok (.goto 19, 3) := by decide +kernel
theorem dX9_readsChoice_30 : decode cX9_readsChoice 30 = .ok (.aload_n 0, 1) := by decide +kernel
theorem dX9_readsChoice_31 : decode cX9_readsChoice 31 = .ok (.iload_n 2, 1) := by decide +kernel
theorem dX9_readsChoice_32 : decode cX9_readsChoice 32 = .ok (.iload_n 3, 1) := by decide +kernel
theorem dX9_readsChoice_33 : decode cX9_readsChoice 33 = .ok (.aload 6, 2) := by decide +kernel
theorem dX9_readsChoice_35 : decode cX9_readsChoice 35 = .ok (.invokevirtual 259, 3) := by decide +kernel
theorem dX9_readsChoice_38 : decode cX9_readsChoice 38 = .ok (.ifCond .eq 7, 3) := by decide +kernel
theorem dX9_readsChoice_41 : decode cX9_readsChoice 41 = .ok (.iconst 2, 1) := by decide +kernel
theorem dX9_readsChoice_42 : decode cX9_readsChoice 42 = .ok (.goto 4, 3) := by decide +kernel
theorem dX9_readsChoice_45 : decode cX9_readsChoice 45 = .ok (.iconst (-1), 1) := by decide +kernel
theorem dX9_readsChoice_46 : decode cX9_readsChoice 46 = .ok (.istore 7, 2) := by decide +kernel
theorem dX9_readsChoice_48 : decode cX9_readsChoice 48 = .ok (.aload_n 0, 1) := by decide +kernel
theorem dX9_readsChoice_49 : decode cX9_readsChoice 49 = .ok (.getfield 7, 3) := by decide +kernel
theorem dX9_readsChoice_52 : decode cX9_readsChoice 52 = .ok (.sipush 8600, 3) := by decide +kernel
theorem dX9_readsChoice_55 : decode cX9_readsChoice 55 = .ok (.iload_n 1, 1) := by decide +kernel
theorem dX9_readsChoice_56 : decode cX9_readsChoice 56 = .ok (.iadd, 1) := by decide +kernel
theorem dX9_readsChoice_57 : decode cX9_readsChoice 57 = .ok (.iload 7, 2) := by decide +kernel
theorem dX9_readsChoice_59 : decode cX9_readsChoice 59 = .ok (.ifCond .lt 9, 3) := by decide +kernel
theorem dX9_readsChoice_62 : decode cX9_readsChoice 62 = .ok (.iload 7, 2) := by decide +kernel
theorem dX9_readsChoice_64 : decode cX9_readsChoice 64 = .ok (.i2l, 1) := by decide +kernel
theorem dX9_readsChoice_65 : decode cX9_readsChoice 65 = .ok (.goto 13, 3) := by decide +kernel
theorem dX9_readsChoice_68 : decode cX9_readsChoice 68 = .ok (.aload_n 0, 1) := by decide +kernel
theorem dX9_readsChoice_69 : decode cX9_readsChoice 69 = .ok (.getfield 7, 3) := by decide +kernel
theorem dX9_readsChoice_72 : decode cX9_readsChoice 72 = .ok (.sipush 8600, 3) := by decide +kernel
theorem dX9_readsChoice_75 : decode cX9_readsChoice 75 = .ok (.iload_n 1, 1) := by decide +kernel
theorem dX9_readsChoice_76 : decode cX9_readsChoice 76 = .ok (.iadd, 1) := by decide +kernel
theorem dX9_readsChoice_77 : decode cX9_readsChoice 77 = .ok (.laload, 1) := by decide +kernel
theorem dX9_readsChoice_78 : decode cX9_readsChoice 78 = .ok (.lastore, 1) := by decide +kernel
theorem dX9_readsChoice_79 : decode cX9_readsChoice 79 = .ok (.return_, 1) := by decide +kernel
theorem dX9_readsAttribute_0 : decode cX9_readsAttribute 0 = .ok (.aload_n 0, 1) := by decide +kernel
theorem dX9_readsAttribute_1 : decode cX9_readsAttribute 1 = .ok (.bipush 61, 2) := by decide +kernel
theorem dX9_readsAttribute_3 : decode cX9_readsAttribute 3 = .ok (.iload_n 1, 1) := by decide +kernel
theorem dX9_readsAttribute_4 : decode cX9_readsAttribute 4 = .ok (.iload_n 2, 1) := by decide +kernel
theorem dX9_readsAttribute_5 : decode cX9_readsAttribute 5 = .ok (.invokevirtual 263, 3) := by decide +kernel
theorem dX9_readsAttribute_8 : decode cX9_readsAttribute 8 = .ok (.istore_n 3, 1) := by decide +kernel
theorem dX9_readsAttribute_9 : decode cX9_readsAttribute 9 = .ok (.aload_n 0, 1) := by decide +kernel
theorem dX9_readsAttribute_10 : decode cX9_readsAttribute 10 = .ok (.iload_n 1, 1) := by decide +kernel
theorem dX9_readsAttribute_11 : decode cX9_readsAttribute 11 = .ok (.iload_n 3, 1) := by decide +kernel
theorem dX9_readsAttribute_12 : decode cX9_readsAttribute 12 = .ok (.invokevirtual 267, 3) := by decide +kernel
theorem dX9_readsAttribute_15 : decode cX9_readsAttribute 15 = .ok (.istore 4, 2) := by decide +kernel
theorem dX9_readsAttribute_17 : decode cX9_readsAttribute 17 = .ok (.aload_n 0, 1) := by decide +kernel
theorem dX9_readsAttribute_18 : decode cX9_readsAttribute 18 = .ok (.iload 4, 2) := by decide +kernel
theorem dX9_readsAttribute_20 : decode cX9_readsAttribute 20 = .ok (.iload_n 3, 1) := by decide +kernel
theorem dX9_readsAttribute_21 : decode cX9_readsAttribute 21 = .ok (.invokevirtual 270, 3) := by decide +kernel
theorem dX9_readsAttribute_24 : decode cX9_readsAttribute 24 = .ok (.istore 5, 2) := by decide +kernel
theorem dX9_readsAttribute_26 : decode cX9_readsAttribute 26 = .ok (.aload_n 0, 1) := by decide +kernel
theorem dX9_readsAttribute_27 : decode cX9_readsAttribute 27 = .ok (.iload_n 3, 1) := by decide +kernel
theorem dX9_readsAttribute_28 : decode cX9_readsAttribute 28 = .ok (.iload_n 2, 1) := by decide +kernel
theorem dX9_readsAttribute_29 : decode cX9_readsAttribute 29 = .ok (.if_icmp .ge 9, 3) := by decide +kernel
theorem dX9_readsAttribute_32 : decode cX9_readsAttribute 32 = .ok (.iload_n 3, 1) := by decide +kernel
theorem dX9_readsAttribute_33 : decode cX9_readsAttribute 33 = .ok (.iconst 1, 1) := by decide +kernel
theorem dX9_readsAttribute_34 : decode cX9_readsAttribute 34 = .ok (.iadd, 1) := by decide +kernel
theorem dX9_readsAttribute_35 : decode cX9_readsAttribute 35 = .ok (.goto 4, 3) := by decide +kernel
theorem dX9_readsAttribute_38 : decode cX9_readsAttribute 38 = .ok (.iload_n 2, 1) := by decide +kernel
theorem dX9_readsAttribute_39 : decode cX9_readsAttribute 39 = .ok (.iload_n 2, 1) := by decide +kernel
theorem dX9_readsAttribute_40 : decode cX9_readsAttribute 40 = .ok (.invokevirtual 267, 3) := by decide +kernel
theorem dX9_readsAttribute_43 : decode cX9_readsAttribute 43 = .ok (.istore 6, 2) := by decide +kernel
theorem dX9_readsAttribute_45 : decode cX9_readsAttribute 45 = .ok (.aload_n 0, 1) := by decide +kernel
theorem dX9_readsAttribute_46 : decode cX9_readsAttribute 46 = .ok (.iload 6, 2) := by decide +kernel
theorem dX9_readsAttribute_48 : decode cX9_readsAttribute 48 = .ok (.iload_n 2, 1) := by decide +kernel
theorem dX9_readsAttribute_49 : decode cX9_readsAttribute 49 = .ok (.invokevirtual 270, 3) := by decide +kernel
theorem dX9_readsAttribute_52 : decode cX9_readsAttribute 52 = .ok (.istore 7, 2) := by decide +kernel
theorem dX9_readsAttribute_54 : decode cX9_readsAttribute 54 = .ok (.aload_n 0, 1) := by decide +kernel
theorem dX9_readsAttribute_55 : decode cX9_readsAttribute 55 = .ok (.iload 4, 2) := by decide +kernel
theorem dX9_readsAttribute_57 : decode cX9_readsAttribute 57 = .ok (.iload 5, 2) := by decide +kernel
theorem dX9_readsAttribute_59 : decode cX9_readsAttribute 59 = .ok (.aload_n 0, 1) := by decide +kernel
theorem dX9_readsAttribute_60 : decode cX9_readsAttribute 60 = .ok (.getfield 27, 3) := by decide +kernel
theorem dX9_readsAttribute_63 : decode cX9_readsAttribute 63 = .ok (.invokevirtual 259, 3) := by decide +kernel
theorem dX9_readsAttribute_66 : decode cX9_readsAttribute 66 = .ok (.ifCond .eq 14, 3) := by decide +kernel
theorem dX9_readsAttribute_69 : decode cX9_readsAttribute 69 = .ok (.aload_n 0, 1) := by decide +kernel
theorem dX9_readsAttribute_70 : decode cX9_readsAttribute 70 = .ok (.iload 6, 2) := by decide +kernel
theorem dX9_readsAttribute_72 : decode cX9_readsAttribute 72 = .ok (.iload 7, 2) := by decide +kernel
theorem dX9_readsAttribute_74 : decode cX9_readsAttribute 74 = .ok (.invokevirtual 273, 3) := by decide +kernel
theorem dX9_readsAttribute_77 : decode cX9_readsAttribute 77 = .ok (.goto 258, 3) := by decide +kernel
theorem dX9_readsAttribute_80 : decode cX9_readsAttribute 80 = .ok (.aload_n 0, 1) := by decide +kernel
theorem dX9_readsAttribute_81 : decode cX9_readsAttribute 81 = .ok (.iload 4, 2) := by decide +kernel
theorem dX9_readsAttribute_83 : decode cX9_readsAttribute 83 = .ok (.iload 5, 2) := by decide +kernel
theorem dX9_readsAttribute_85 : decode cX9_readsAttribute 85 = .ok (.aload_n 0, 1) := by decide +kernel
theorem dX9_readsAttribute_86 : decode cX9_readsAttribute 86 = .ok (.getfield 30, 3) := by decide +kernel
theorem dX9_readsAttribute_89 : decode cX9_readsAttribute 89 = .ok (.invokevirtual 259, 3) := by decide +kernel
theorem dX9_readsAttribute_92 : decode cX9_readsAttribute 92 = .ok (.ifCond .eq 14, 3) := by decide +kernel
theorem dX9_readsAttribute_95 : decode cX9_readsAttribute 95 = .ok (.aload_n 0, 1) := by decide +kernel
theorem dX9_readsAttribute_96 : decode cX9_readsAttribute 96 = .ok (.iload 6, 2) := by decide +kernel
theorem dX9_readsAttribute_98 : decode cX9_readsAttribute 98 = .ok (.iload 7, 2) := by decide +kernel
theorem dX9_readsAttribute_100 : decode cX9_readsAttribute 100 = .ok (.invokevirtual 277, 3) := by decide +kernel
theorem dX9_readsAttribute_103 : decode cX9_readsAttribute 103 = .ok (.goto 232, 3) := by decide +kernel
theorem dX9_readsAttribute_106 : decode cX9_readsAttribute 106 = .ok (.aload_n 0, 1) := by decide +kernel
theorem dX9_readsAttribute_107 : decode cX9_readsAttribute 107 = .ok (.iload 4, 2) := by decide +kernel
theorem dX9_readsAttribute_109 : decode cX9_readsAttribute 109 = .ok (.iload 5, 2) := by decide +kernel
theorem dX9_readsAttribute_111 : decode cX9_readsAttribute 111 = .ok (.aload_n 0, 1) := by decide +kernel
theorem dX9_readsAttribute_112 : decode cX9_readsAttribute 112 = .ok (.getfield 33, 3) := by decide +kernel
theorem dX9_readsAttribute_115 : decode cX9_readsAttribute 115 = .ok (.invokevirtual 259, 3) := by decide +kernel
theorem dX9_readsAttribute_118 : decode cX9_readsAttribute 118 = .ok (.ifCond .eq 14, 3) := by decide +kernel
theorem dX9_readsAttribute_121 : decode cX9_readsAttribute 121 = .ok (.aload_n 0, 1) := by decide +kernel
theorem dX9_readsAttribute_122 : decode cX9_readsAttribute 122 = .ok (.iload 6, 2) := by decide +kernel
theorem dX9_readsAttribute_124 : decode cX9_readsAttribute 124 = .ok (.iload 7, 2) := by decide +kernel
theorem dX9_readsAttribute_126 : decode cX9_readsAttribute 126 = .ok (.invokevirtual 280, 3) := by decide +kernel
theorem dX9_readsAttribute_129 : decode cX9_readsAttribute 129 = .ok (.goto 206, 3) := by decide +kernel
theorem dX9_readsAttribute_132 : decode cX9_readsAttribute 132 = .ok (.aload_n 0, 1) := by decide +kernel
theorem dX9_readsAttribute_133 : decode cX9_readsAttribute 133 = .ok (.iload 4, 2) := by decide +kernel
theorem dX9_readsAttribute_135 : decode cX9_readsAttribute 135 = .ok (.iload 5, 2) := by decide +kernel
theorem dX9_readsAttribute_137 : decode cX9_readsAttribute 137 = .ok (.aload_n 0, 1) := by decide +kernel
theorem dX9_readsAttribute_138 : decode cX9_readsAttribute 138 = .ok (.getfield 36, 3) := by decide +kernel
theorem dX9_readsAttribute_141 : decode cX9_readsAttribute 141 = .ok (.invokevirtual 259, 3) := by decide +kernel
theorem dX9_readsAttribute_144 : decode cX9_readsAttribute 144 = .ok (.ifCond .eq 60, 3) := by decide +kernel
theorem dX9_readsAttribute_147 : decode cX9_readsAttribute 147 = .ok (.iload 7, 2) := by decide +kernel
theorem dX9_readsAttribute_149 : decode cX9_readsAttribute 149 = .ok (.iload 6, 2) := by decide +kernel
theorem dX9_readsAttribute_151 : decode cX9_readsAttribute 151 = .ok (.isub, 1) := by decide +kernel
theorem dX9_readsAttribute_152 : decode cX9_readsAttribute 152 = .ok (.i2l, 1) := by decide +kernel
theorem dX9_readsAttribute_153 : decode cX9_readsAttribute 153 = .ok (.lconst 1, 1) := by decide +kernel
theorem dX9_readsAttribute_154 : decode cX9_readsAttribute 154 = .ok (.ldc2_w 283, 3) := by decide +kernel
theorem dX9_readsAttribute_157 : decode cX9_readsAttribute 157 = .ok (.invokestatic 90, 3) := by decide +kernel
theorem dX9_readsAttribute_160 : decode cX9_readsAttribute 160 = .ok (.ifCond .eq 44, 3) := by decide +kernel
theorem dX9_readsAttribute_163 : decode cX9_readsAttribute 163 = .ok (.aload_n 0, 1) := by decide +kernel
theorem dX9_readsAttribute_164 : decode cX9_readsAttribute 164 = .ok (.getfield 7, 3) := by decide +kernel
theorem dX9_readsAttribute_167 : decode cX9_readsAttribute 167 = .ok (.sipush 8400, 3) := by decide +kernel
theorem dX9_readsAttribute_170 : decode cX9_readsAttribute 170 = .ok (.iload 6, 2) := by decide +kernel
theorem dX9_readsAttribute_172 : decode cX9_readsAttribute 172 = .ok (.iadd, 1) := by decide +kernel
theorem dX9_readsAttribute_173 : decode cX9_readsAttribute 173 = .ok (.laload, 1) := by decide +kernel
theorem dX9_readsAttribute_174 : decode cX9_readsAttribute 174 = .ok (.ldc2_w 144, 3) := by decide +kernel
theorem dX9_readsAttribute_177 : decode cX9_readsAttribute 177 = .ok (.lcmp, 1) := by decide +kernel
theorem dX9_readsAttribute_178 : decode cX9_readsAttribute 178 = .ok (.ifCond .ne 26, 3) := by decide +kernel
theorem dX9_readsAttribute_181 : decode cX9_readsAttribute 181 = .ok (.aload_n 0, 1) := by decide +kernel
theorem dX9_readsAttribute_182 : decode cX9_readsAttribute 182 = .ok (.iconst 1, 1) := by decide +kernel
theorem dX9_readsAttribute_183 : decode cX9_readsAttribute 183 = .ok (.putfield 285, 3) := by decide +kernel
theorem dX9_readsAttribute_186 : decode cX9_readsAttribute 186 = .ok (.aload_n 0, 1) := by decide +kernel
theorem dX9_readsAttribute_187 : decode cX9_readsAttribute 187 = .ok (.iload 6, 2) := by decide +kernel
theorem dX9_readsAttribute_189 : decode cX9_readsAttribute 189 = .ok (.putfield 288, 3) := by decide +kernel
theorem dX9_readsAttribute_192 : decode cX9_readsAttribute 192 = .ok (.aload_n 0, 1) := by decide +kernel
theorem dX9_readsAttribute_193 : decode cX9_readsAttribute 193 = .ok (.iload 7, 2) := by decide +kernel
theorem dX9_readsAttribute_195 : decode cX9_readsAttribute 195 = .ok (.iload 6, 2) := by decide +kernel
theorem dX9_readsAttribute_197 : decode cX9_readsAttribute 197 = .ok (.isub, 1) := by decide +kernel
theorem dX9_readsAttribute_198 : decode cX9_readsAttribute 198 = .ok (.putfield 291, 3) := by decide +kernel
theorem dX9_readsAttribute_201 : decode cX9_readsAttribute 201 = .ok (.goto 134, 3) := by decide +kernel
theorem dX9_readsAttribute_204 : decode cX9_readsAttribute 204 = .ok (.aload_n 0, 1) := by decide +kernel
theorem dX9_readsAttribute_205 : decode cX9_readsAttribute 205 = .ok (.iload 4, 2) := by decide +kernel
theorem dX9_readsAttribute_207 : decode cX9_readsAttribute 207 = .ok (.iload 5, 2) := by decide +kernel
theorem dX9_readsAttribute_209 : decode cX9_readsAttribute 209 = .ok (.aload_n 0, 1) := by decide +kernel
theorem dX9_readsAttribute_210 : decode cX9_readsAttribute 210 = .ok (.getfield 39, 3) := by decide +kernel
theorem dX9_readsAttribute_213 : decode cX9_readsAttribute 213 = .ok (.invokevirtual 259, 3) := by decide +kernel
theorem dX9_readsAttribute_216 : decode cX9_readsAttribute 216 = .ok (.ifCond .eq 15, 3) := by decide +kernel
theorem dX9_readsAttribute_219 : decode cX9_readsAttribute 219 = .ok (.aload_n 0, 1) := by decide +kernel
theorem dX9_readsAttribute_220 : decode cX9_readsAttribute 220 = .ok (.getfield 7, 3) := by decide +kernel
theorem dX9_readsAttribute_223 : decode cX9_readsAttribute 223 = .ok (.sipush 8609, 3) := by decide +kernel
theorem dX9_readsAttribute_226 : decode cX9_readsAttribute 226 = .ok (.lconst 1, 1) := by decide +kernel
theorem dX9_readsAttribute_227 : decode cX9_readsAttribute 227 = .ok (.lastore, 1) := by decide +kernel
theorem dX9_readsAttribute_228 : decode cX9_readsAttribute 228 = .ok (.goto 107, 3) := by decide +kernel
theorem dX9_readsAttribute_231 : decode cX9_readsAttribute 231 = .ok (.aload_n 0, 1) := by decide +kernel
theorem dX9_readsAttribute_232 : decode cX9_readsAttribute 232 = .ok (.iload 4, 2) := by decide +kernel
theorem dX9_readsAttribute_234 : decode cX9_readsAttribute 234 = .ok (.iload 5, 2) := by decide +kernel
theorem dX9_readsAttribute_236 : decode cX9_readsAttribute 236 = .ok (.aload_n 0, 1) := by decide +kernel
theorem dX9_readsAttribute_237 : decode cX9_readsAttribute 237 = .ok (.getfield 42, 3) := by decide +kernel
theorem dX9_readsAttribute_240 : decode cX9_readsAttribute 240 = .ok (.invokevirtual 259, 3) := by decide +kernel
theorem dX9_readsAttribute_243 : decode cX9_readsAttribute 243 = .ok (.ifCond .eq 15, 3) := by decide +kernel
theorem dX9_readsAttribute_246 : decode cX9_readsAttribute 246 = .ok (.aload_n 0, 1) := by decide +kernel
theorem dX9_readsAttribute_247 : decode cX9_readsAttribute 247 = .ok (.getfield 7, 3) := by decide +kernel
theorem dX9_readsAttribute_250 : decode cX9_readsAttribute 250 = .ok (.sipush 8610, 3) := by decide +kernel
theorem dX9_readsAttribute_253 : decode cX9_readsAttribute 253 = .ok (.lconst 1, 1) := by decide +kernel
theorem dX9_readsAttribute_254 : decode cX9_readsAttribute 254 = .ok (.lastore, 1) := by decide +kernel
theorem dX9_readsAttribute_255 : decode cX9_readsAttribute 255 = .ok (.goto 80, 3) := by decide +kernel
theorem dX9_readsAttribute_258 : decode cX9_readsAttribute 258 = .ok (.aload_n 0, 1) := by decide +kernel
theorem dX9_readsAttribute_259 : decode cX9_readsAttribute 259 = .ok (.iload 4, 2) := by decide +kernel
theorem dX9_readsAttribute_261 : decode cX9_readsAttribute 261 = .ok (.iload 5, 2) := by decide +kernel
theorem dX9_readsAttribute_263 : decode cX9_readsAttribute 263 = .ok (.aload_n 0, 1) := by decide +kernel
theorem dX9_readsAttribute_264 : decode cX9_readsAttribute 264 = .ok (.getfield 45, 3) := by decide +kernel
theorem dX9_readsAttribute_267 : decode cX9_readsAttribute 267 = .ok (.invokevirtual 259, 3) := by decide +kernel
theorem dX9_readsAttribute_270 : decode cX9_readsAttribute 270 = .ok (.ifCond .eq 28, 3) := by decide +kernel
theorem dX9_readsAttribute_273 : decode cX9_readsAttribute 273 = .ok (.aload_n 0, 1) := by decide +kernel
theorem dX9_readsAttribute_274 : decode cX9_readsAttribute 274 = .ok (.bipush 11, 2) := by decide +kernel
theorem dX9_readsAttribute_276 : decode cX9_readsAttribute 276 = .ok (.iload 6, 2) := by decide +kernel
theorem dX9_readsAttribute_278 : decode cX9_readsAttribute 278 = .ok (.iload 7, 2) := by decide +kernel
theorem dX9_readsAttribute_280 : decode cX9_readsAttribute 280 = .ok (.aload_n 0, 1) := by decide +kernel
theorem dX9_readsAttribute_281 : decode cX9_readsAttribute 281 = .ok (.getfield 51, 3) := by decide +kernel
theorem dX9_readsAttribute_284 : decode cX9_readsAttribute 284 = .ok (.aload_n 0, 1) := by decide +kernel
theorem dX9_readsAttribute_285 : decode cX9_readsAttribute 285 = .ok (.getfield 54, 3) := by decide +kernel
theorem dX9_readsAttribute_288 : decode cX9_readsAttribute 288 = .ok (.aload_n 0, 1) := by decide +kernel
theorem dX9_readsAttribute_289 : decode cX9_readsAttribute 289 = .ok (.getfield 57, 3) := by decide +kernel
theorem dX9_readsAttribute_292 : decode cX9_readsAttribute 292 = .ok (.invokevirtual 294, 3) := by decide +kernel
theorem dX9_readsAttribute_295 : decode cX9_readsAttribute 295 = .ok (.goto 40, 3) := by decide +kernel
theorem dX9_readsAttribute_298 : decode cX9_readsAttribute 298 = .ok (.aload_n 0, 1) := by decide +kernel
theorem dX9_readsAttribute_299 : decode cX9_readsAttribute 299 = .ok (.iload 4, 2) := by decide +kernel
theorem dX9_readsAttribute_301 : decode cX9_readsAttribute 301 = .ok (.iload 5, 2) := by decide +kernel
theorem dX9_readsAttribute_303 : decode cX9_readsAttribute 303 = .ok (.aload_n 0, 1) := by decide +kernel
theorem dX9_readsAttribute_304 : decode cX9_readsAttribute 304 = .ok (.getfield 48, 3) := by decide +kernel
theorem dX9_readsAttribute_307 : decode cX9_readsAttribute 307 = .ok (.invokevirtual 259, 3) := by decide +kernel
theorem dX9_readsAttribute_310 : decode cX9_readsAttribute 310 = .ok (.ifCond .eq 25, 3) := by decide +kernel
theorem dX9_readsAttribute_313 : decode cX9_readsAttribute 313 = .ok (.aload_n 0, 1) := by decide +kernel
theorem dX9_readsAttribute_314 : decode cX9_readsAttribute 314 = .ok (.bipush 12, 2) := by decide +kernel
theorem dX9_readsAttribute_316 : decode cX9_readsAttribute 316 = .ok (.iload 6, 2) := by decide +kernel
theorem dX9_readsAttribute_318 : decode cX9_readsAttribute 318 = .ok (.iload 7, 2) := by decide +kernel
theorem dX9_readsAttribute_320 : decode cX9_readsAttribute 320 = .ok (.aload_n 0, 1) := by decide +kernel
theorem dX9_readsAttribute_321 : decode cX9_readsAttribute 321 = .ok (.getfield 60, 3) := by decide +kernel
theorem dX9_readsAttribute_324 : decode cX9_readsAttribute 324 = .ok (.aload_n 0, 1) := by decide +kernel
theorem dX9_readsAttribute_325 : decode cX9_readsAttribute 325 = .ok (.getfield 63, 3) := by decide +kernel
theorem dX9_readsAttribute_328 : decode cX9_readsAttribute 328 = .ok (.aload_n 0, 1) := by decide +kernel
theorem dX9_readsAttribute_329 : decode cX9_readsAttribute 329 = .ok (.getfield 66, 3) := by decide +kernel
theorem dX9_readsAttribute_332 : decode cX9_readsAttribute 332 = .ok (.invokevirtual 294, 3) := by decide +kernel
theorem dX9_readsAttribute_335 : decode cX9_readsAttribute 335 = .ok (.return_, 1) := by decide +kernel
theorem dX9_readsCookie_0 : decode cX9_readsCookie 0 = .ok (.aload_n 0, 1) := by decide +kernel
theorem dX9_readsCookie_1 : decode cX9_readsCookie 1 = .ok (.iconst 0, 1) := by decide +kernel
theorem dX9_readsCookie_2 : decode cX9_readsCookie 2 = .ok (.putfield 247, 3) := by decide +kernel
theorem dX9_readsCookie_5 : decode cX9_readsCookie 5 = .ok (.aload_n 0, 1) := by decide +kernel
theorem dX9_readsCookie_6 : decode cX9_readsCookie 6 = .ok (.iconst 0, 1) := by decide +kernel
theorem dX9_readsCookie_7 : decode cX9_readsCookie 7 = .ok (.putfield 233, 3) := by decide +kernel
theorem dX9_readsCookie_10 : decode cX9_readsCookie 10 = .ok (.aload_n 0, 1) := by decide +kernel
theorem dX9_readsCookie_11 : decode cX9_readsCookie 11 = .ok (.iconst 0, 1) := by decide +kernel
theorem dX9_readsCookie_12 : decode cX9_readsCookie 12 = .ok (.putfield 253, 3) := by decide +kernel
theorem dX9_readsCookie_15 : decode cX9_readsCookie 15 = .ok (.aload_n 0, 1) := by decide +kernel
theorem dX9_readsCookie_16 : decode cX9_readsCookie 16 = .ok (.iconst 0, 1) := by decide +kernel
theorem dX9_readsCookie_17 : decode cX9_readsCookie 17 = .ok (.putfield 285, 3) := by decide +kernel
theorem dX9_readsCookie_20 : decode cX9_readsCookie 20 = .ok (.aload_n 0, 1) := by decide +kernel
theorem dX9_readsCookie_21 : decode cX9_readsCookie 21 = .ok (.getfield 7, 3) := by decide +kernel
theorem dX9_readsCookie_24 : decode cX9_readsCookie 24 = .ok (.sipush 8609, 3) := by decide +kernel
theorem dX9_readsCookie_27 : decode cX9_readsCookie 27 = .ok (.lconst 0, 1) := by decide +kernel
theorem dX9_readsCookie_28 : decode cX9_readsCookie 28 = .ok (.lastore, 1) := by decide +kernel
theorem dX9_readsCookie_29 : decode cX9_readsCookie 29 = .ok (.aload_n 0, 1) := by decide +kernel
theorem dX9_readsCookie_30 : decode cX9_readsCookie 30 = .ok (.getfield 7, 3) := by decide +kernel
theorem dX9_readsCookie_33 : decode cX9_readsCookie 33 = .ok (.sipush 8610, 3) := by decide +kernel
theorem dX9_readsCookie_36 : decode cX9_readsCookie 36 = .ok (.lconst 0, 1) := by decide +kernel
theorem dX9_readsCookie_37 : decode cX9_readsCookie 37 = .ok (.lastore, 1) := by decide +kernel
theorem dX9_readsCookie_38 : decode cX9_readsCookie 38 = .ok (.aload_n 0, 1) := by decide +kernel
theorem dX9_readsCookie_39 : decode cX9_readsCookie 39 = .ok (.getfield 7, 3) := by decide +kernel
theorem dX9_readsCookie_42 : decode cX9_readsCookie 42 = .ok (.sipush 8611, 3) := by decide +kernel
theorem dX9_readsCookie_45 : decode cX9_readsCookie 45 = .ok (.lconst 1, 1) := by decide +kernel
theorem dX9_readsCookie_46 : decode cX9_readsCookie 46 = .ok (.lastore, 1) := by decide +kernel
theorem dX9_readsCookie_47 : decode cX9_readsCookie 47 = .ok (.aload_n 0, 1) := by decide +kernel
theorem dX9_readsCookie_48 : decode cX9_readsCookie 48 = .ok (.getfield 7, 3) := by decide +kernel
theorem dX9_readsCookie_51 : decode cX9_readsCookie 51 = .ok (.sipush 8612, 3) := by decide +kernel
theorem dX9_readsCookie_54 : decode cX9_readsCookie 54 = .ok (.lconst 1, 1) := by decide +kernel
theorem dX9_readsCookie_55 : decode cX9_readsCookie 55 = .ok (.lastore, 1) := by decide +kernel
theorem dX9_readsCookie_56 : decode cX9_readsCookie 56 = .ok (.aload_n 0, 1) := by decide +kernel
theorem dX9_readsCookie_57 : decode cX9_readsCookie 57 = .ok (.bipush 59, 2) := by decide +kernel
theorem dX9_readsCookie_59 : decode cX9_readsCookie 59 = .ok (.iconst 0, 1) := by decide +kernel
theorem dX9_readsCookie_60 : decode cX9_readsCookie 60 = .ok (.aload_n 0, 1) := by decide +kernel
theorem dX9_readsCookie_61 : decode cX9_readsCookie 61 = .ok (.getfield 133, 3) := by decide +kernel
theorem dX9_readsCookie_64 : decode cX9_readsCookie 64 = .ok (.invokevirtual 263, 3) := by decide +kernel
theorem dX9_readsCookie_67 : decode cX9_readsCookie 67 = .ok (.istore_n 1, 1) := by decide +kernel
theorem dX9_readsCookie_68 : decode cX9_readsCookie 68 = .ok (.aload_n 0, 1) := by decide +kernel
theorem dX9_readsCookie_69 : decode cX9_readsCookie 69 = .ok (.bipush 61, 2) := by decide +kernel
theorem dX9_readsCookie_71 : decode cX9_readsCookie 71 = .ok (.iconst 0, 1) := by decide +kernel
theorem dX9_readsCookie_72 : decode cX9_readsCookie 72 = .ok (.iload_n 1, 1) := by decide +kernel
theorem dX9_readsCookie_73 : decode cX9_readsCookie 73 = .ok (.invokevirtual 263, 3) := by decide +kernel
theorem dX9_readsCookie_76 : decode cX9_readsCookie 76 = .ok (.istore_n 2, 1) := by decide +kernel
theorem dX9_readsCookie_77 : decode cX9_readsCookie 77 = .ok (.aload_n 0, 1) := by decide +kernel
theorem dX9_readsCookie_78 : decode cX9_readsCookie 78 = .ok (.iload_n 2, 1) := by decide +kernel
theorem dX9_readsCookie_79 : decode cX9_readsCookie 79 = .ok (.iload_n 1, 1) := by decide +kernel
theorem dX9_readsCookie_80 : decode cX9_readsCookie 80 = .ok (.if_icmp .ge 7, 3) := by decide +kernel
theorem dX9_readsCookie_83 : decode cX9_readsCookie 83 = .ok (.iconst 1, 1) := by decide +kernel
theorem dX9_readsCookie_84 : decode cX9_readsCookie 84 = .ok (.goto 4, 3) := by decide +kernel
theorem dX9_readsCookie_87 : decode cX9_readsCookie 87 = .ok (.iconst 0, 1) := by decide +kernel
theorem dX9_readsCookie_88 : decode cX9_readsCookie 88 = .ok (.putfield 298, 3) := by decide +kernel
theorem dX9_readsCookie_91 : decode cX9_readsCookie 91 = .ok (.aload_n 0, 1) := by decide +kernel
theorem dX9_readsCookie_92 : decode cX9_readsCookie 92 = .ok (.aload_n 0, 1) := by decide +kernel
theorem dX9_readsCookie_93 : decode cX9_readsCookie 93 = .ok (.iconst 0, 1) := by decide +kernel
theorem dX9_readsCookie_94 : decode cX9_readsCookie 94 = .ok (.iload_n 2, 1) := by decide +kernel
theorem dX9_readsCookie_95 : decode cX9_readsCookie 95 = .ok (.invokevirtual 267, 3) := by decide +kernel
theorem dX9_readsCookie_98 : decode cX9_readsCookie 98 = .ok (.putfield 301, 3) := by decide +kernel
theorem dX9_readsCookie_101 : decode cX9_readsCookie 101 = .ok (.aload_n 0, 1) := by decide +kernel
theorem dX9_readsCookie_102 : decode cX9_readsCookie 102 = .ok (.aload_n 0, 1) := by decide +kernel
theorem dX9_readsCookie_103 : decode cX9_readsCookie 103 = .ok (.aload_n 0, 1) := by decide +kernel
theorem dX9_readsCookie_104 : decode cX9_readsCookie 104 = .ok (.getfield 301, 3) := by decide +kernel
theorem dX9_readsCookie_107 : decode cX9_readsCookie 107 = .ok (.iload_n 2, 1) := by decide +kernel
theorem dX9_readsCookie_108 : decode cX9_readsCookie 108 = .ok (.invokevirtual 270, 3) := by decide +kernel
theorem dX9_readsCookie_111 : decode cX9_readsCookie 111 = .ok (.aload_n 0, 1) := by decide +kernel
theorem dX9_readsCookie_112 : decode cX9_readsCookie 112 = .ok (.getfield 301, 3) := by decide +kernel
theorem dX9_readsCookie_115 : decode cX9_readsCookie 115 = .ok (.isub, 1) := by decide +kernel
theorem dX9_readsCookie_116 : decode cX9_readsCookie 116 = .ok (.putfield 304, 3) := by decide +kernel
theorem dX9_readsCookie_119 : decode cX9_readsCookie 119 = .ok (.aload_n 0, 1) := by decide +kernel
theorem dX9_readsCookie_120 : decode cX9_readsCookie 120 = .ok (.aload_n 0, 1) := by decide +kernel
theorem dX9_readsCookie_121 : decode cX9_readsCookie 121 = .ok (.aload_n 0, 1) := by decide +kernel
theorem dX9_readsCookie_122 : decode cX9_readsCookie 122 = .ok (.getfield 298, 3) := by decide +kernel
theorem dX9_readsCookie_125 : decode cX9_readsCookie 125 = .ok (.ifCond .eq 9, 3) := by decide +kernel
theorem dX9_readsCookie_128 : decode cX9_readsCookie 128 = .ok (.iload_n 2, 1) := by decide +kernel
theorem dX9_readsCookie_129 : decode cX9_readsCookie 129 = .ok (.iconst 1, 1) := by decide +kernel
theorem dX9_readsCookie_130 : decode cX9_readsCookie 130 = .ok (.iadd, 1) := by decide +kernel
theorem dX9_readsCookie_131 : decode cX9_readsCookie 131 = .ok (.goto 4, 3) := by decide +kernel
theorem dX9_readsCookie_134 : decode cX9_readsCookie 134 = .ok (.iload_n 1, 1) := by decide +kernel
theorem dX9_readsCookie_135 : decode cX9_readsCookie 135 = .ok (.iload_n 1, 1) := by decide +kernel
theorem dX9_readsCookie_136 : decode cX9_readsCookie 136 = .ok (.invokevirtual 267, 3) := by decide +kernel
theorem dX9_readsCookie_139 : decode cX9_readsCookie 139 = .ok (.putfield 307, 3) := by decide +kernel
theorem dX9_readsCookie_142 : decode cX9_readsCookie 142 = .ok (.aload_n 0, 1) := by decide +kernel
theorem dX9_readsCookie_143 : decode cX9_readsCookie 143 = .ok (.aload_n 0, 1) := by decide +kernel
theorem dX9_readsCookie_144 : decode cX9_readsCookie 144 = .ok (.aload_n 0, 1) := by decide +kernel
theorem dX9_readsCookie_145 : decode cX9_readsCookie 145 = .ok (.getfield 307, 3) := by decide +kernel
theorem dX9_readsCookie_148 : decode cX9_readsCookie 148 = .ok (.iload_n 1, 1) := by decide +kernel
theorem dX9_readsCookie_149 : decode cX9_readsCookie 149 = .ok (.invokevirtual 270, 3) := by decide +kernel
theorem dX9_readsCookie_152 : decode cX9_readsCookie 152 = .ok (.aload_n 0, 1) := by decide +kernel
theorem dX9_readsCookie_153 : decode cX9_readsCookie 153 = .ok (.getfield 307, 3) := by decide +kernel
theorem dX9_readsCookie_156 : decode cX9_readsCookie 156 = .ok (.isub, 1) := by decide +kernel
theorem dX9_readsCookie_157 : decode cX9_readsCookie 157 = .ok (.putfield 310, 3) := by decide +kernel
theorem dX9_readsCookie_160 : decode cX9_readsCookie 160 = .ok (.iload_n 1, 1) := by decide +kernel
theorem dX9_readsCookie_161 : decode cX9_readsCookie 161 = .ok (.aload_n 0, 1) := by decide +kernel
theorem dX9_readsCookie_162 : decode cX9_readsCookie 162 = .ok (.getfield 133, 3) := by decide +kernel
theorem dX9_readsCookie_165 : decode cX9_readsCookie 165 = .ok (.if_icmp .ge 28, 3) := by decide +kernel
theorem dX9_readsCookie_168 : decode cX9_readsCookie 168 = .ok (.iload_n 1, 1) := by decide +kernel
theorem dX9_readsCookie_169 : decode cX9_readsCookie 169 = .ok (.iconst 1, 1) := by decide +kernel
theorem dX9_readsCookie_170 : decode cX9_readsCookie 170 = .ok (.iadd, 1) := by decide +kernel
theorem dX9_readsCookie_171 : decode cX9_readsCookie 171 = .ok (.istore_n 3, 1) := by decide +kernel
theorem dX9_readsCookie_172 : decode cX9_readsCookie 172 = .ok (.aload_n 0, 1) := by decide +kernel
theorem dX9_readsCookie_173 : decode cX9_readsCookie 173 = .ok (.bipush 59, 2) := by decide +kernel
theorem dX9_readsCookie_175 : decode cX9_readsCookie 175 = .ok (.iload_n 3, 1) := by decide +kernel
theorem dX9_readsCookie_176 : decode cX9_readsCookie 176 = .ok (.aload_n 0, 1) := by decide +kernel
theorem dX9_readsCookie_177 : decode cX9_readsCookie 177 = .ok (.getfield 133, 3) := by decide +kernel
theorem dX9_readsCookie_180 : decode cX9_readsCookie 180 = .ok (.invokevirtual 263, 3) := by decide +kernel
theorem dX9_readsCookie_183 : decode cX9_readsCookie 183 = .ok (.istore_n 1, 1) := by decide +kernel
theorem dX9_readsCookie_184 : decode cX9_readsCookie 184 = .ok (.aload_n 0, 1) := by decide +kernel
theorem dX9_readsCookie_185 : decode cX9_readsCookie 185 = .ok (.iload_n 3, 1) := by decide +kernel
theorem dX9_readsCookie_186 : decode cX9_readsCookie 186 = .ok (.iload_n 1, 1) := by decide +kernel
theorem dX9_readsCookie_187 : decode cX9_readsCookie 187 = .ok (.invokevirtual 313, 3) := by decide +kernel
theorem dX9_readsCookie_190 : decode cX9_readsCookie 190 = .ok (.goto (-30), 3) := by decide +kernel
theorem dX9_readsCookie_193 : decode cX9_readsCookie 193 = .ok (.return_, 1) := by decide +kernel
theorem dX9_fillsCookie_0 : decode cX9_fillsCookie 0 = .ok (.aload_n 0, 1) := by decide +kernel
theorem dX9_fillsCookie_1 : decode cX9_fillsCookie 1 = .ok (.getfield 253, 3) := by decide +kernel
theorem dX9_fillsCookie_4 : decode cX9_fillsCookie 4 = .ok (.ifCond .eq 21, 3) := by decide +kernel
theorem dX9_fillsCookie_7 : decode cX9_fillsCookie 7 = .ok (.aload_n 0, 1) := by decide +kernel
theorem dX9_fillsCookie_8 : decode cX9_fillsCookie 8 = .ok (.sipush 8800, 3) := by decide +kernel
theorem dX9_fillsCookie_11 : decode cX9_fillsCookie 11 = .ok (.aload_n 0, 1) := by decide +kernel
theorem dX9_fillsCookie_12 : decode cX9_fillsCookie 12 = .ok (.getfield 256, 3) := by decide +kernel
theorem dX9_fillsCookie_15 : decode cX9_fillsCookie 15 = .ok (.invokevirtual 316, 3) := by decide +kernel
theorem dX9_fillsCookie_18 : decode cX9_fillsCookie 18 = .ok (.ifCond .ne 7, 3) := by decide +kernel
theorem dX9_fillsCookie_21 : decode cX9_fillsCookie 21 = .ok (.iconst 1, 1) := by decide +kernel
theorem dX9_fillsCookie_22 : decode cX9_fillsCookie 22 = .ok (.goto 4, 3) := by decide +kernel
theorem dX9_fillsCookie_25 : decode cX9_fillsCookie 25 = .ok (.iconst 0, 1) := by decide +kernel
theorem dX9_fillsCookie_26 : decode cX9_fillsCookie 26 = .ok (.istore_n 1, 1) := by decide +kernel
theorem dX9_fillsCookie_27 : decode cX9_fillsCookie 27 = .ok (.aload_n 0, 1) := by decide +kernel
theorem dX9_fillsCookie_28 : decode cX9_fillsCookie 28 = .ok (.getfield 7, 3) := by decide +kernel
theorem dX9_fillsCookie_31 : decode cX9_fillsCookie 31 = .ok (.sipush 8608, 3) := by decide +kernel
theorem dX9_fillsCookie_34 : decode cX9_fillsCookie 34 = .ok (.iload_n 1, 1) := by decide +kernel
theorem dX9_fillsCookie_35 : decode cX9_fillsCookie 35 = .ok (.ifCond .eq 7, 3) := by decide +kernel
theorem dX9_fillsCookie_38 : decode cX9_fillsCookie 38 = .ok (.lconst 0, 1) := by decide +kernel
theorem dX9_fillsCookie_39 : decode cX9_fillsCookie 39 = .ok (.goto 4, 3) := by decide +kernel
theorem dX9_fillsCookie_42 : decode cX9_fillsCookie 42 = .ok (.lconst 1, 1) := by decide +kernel
theorem dX9_fillsCookie_43 : decode cX9_fillsCookie 43 = .ok (.lastore, 1) := by decide +kernel
theorem dX9_fillsCookie_44 : decode cX9_fillsCookie 44 = .ok (.aload_n 0, 1) := by decide +kernel
theorem dX9_fillsCookie_45 : decode cX9_fillsCookie 45 = .ok (.getfield 7, 3) := by decide +kernel
theorem dX9_fillsCookie_48 : decode cX9_fillsCookie 48 = .ok (.sipush 8602, 3) := by decide +kernel
theorem dX9_fillsCookie_51 : decode cX9_fillsCookie 51 = .ok (.iload_n 1, 1) := by decide +kernel
theorem dX9_fillsCookie_52 : decode cX9_fillsCookie 52 = .ok (.ifCond .eq 11, 3) := by decide +kernel
theorem dX9_fillsCookie_55 : decode cX9_fillsCookie 55 = .ok (.aload_n 0, 1) := by decide +kernel
theorem dX9_fillsCookie_56 : decode cX9_fillsCookie 56 = .ok (.getfield 256, 3) := by decide +kernel
theorem dX9_fillsCookie_59 : decode cX9_fillsCookie 59 = .ok (.i2l, 1) := by decide +kernel
theorem dX9_fillsCookie_60 : decode cX9_fillsCookie 60 = .ok (.goto 8, 3) := by decide +kernel
theorem dX9_fillsCookie_63 : decode cX9_fillsCookie 63 = .ok (.aload_n 0, 1) := by decide +kernel
theorem dX9_fillsCookie_64 : decode cX9_fillsCookie 64 = .ok (.invokevirtual 169, 3) := by decide +kernel
theorem dX9_fillsCookie_67 : decode cX9_fillsCookie 67 = .ok (.i2l, 1) := by decide +kernel
theorem dX9_fillsCookie_68 : decode cX9_fillsCookie 68 = .ok (.lastore, 1) := by decide +kernel
theorem dX9_fillsCookie_69 : decode cX9_fillsCookie 69 = .ok (.iload_n 1, 1) := by decide +kernel
theorem dX9_fillsCookie_70 : decode cX9_fillsCookie 70 = .ok (.ifCond .ne 19, 3) := by decide +kernel
theorem dX9_fillsCookie_73 : decode cX9_fillsCookie 73 = .ok (.aload_n 0, 1) := by decide +kernel
theorem dX9_fillsCookie_74 : decode cX9_fillsCookie 74 = .ok (.bipush 104, 2) := by decide +kernel
theorem dX9_fillsCookie_76 : decode cX9_fillsCookie 76 = .ok (.aload_n 0, 1) := by decide +kernel
theorem dX9_fillsCookie_77 : decode cX9_fillsCookie 77 = .ok (.invokevirtual 169, 3) := by decide +kernel
theorem dX9_fillsCookie_80 : decode cX9_fillsCookie 80 = .ok (.sipush 8662, 3) := by decide +kernel
theorem dX9_fillsCookie_83 : decode cX9_fillsCookie 83 = .ok (.invokevirtual 148, 3) := by decide +kernel
theorem dX9_fillsCookie_86 : decode cX9_fillsCookie 86 = .ok (.goto 26, 3) := by decide +kernel
theorem dX9_fillsCookie_89 : decode cX9_fillsCookie 89 = .ok (.aload_n 0, 1) := by decide +kernel
theorem dX9_fillsCookie_90 : decode cX9_fillsCookie 90 = .ok (.getfield 256, 3) := by decide +kernel
theorem dX9_fillsCookie_93 : decode cX9_fillsCookie 93 = .ok (.bipush 30, 2) := by decide +kernel
theorem dX9_fillsCookie_95 : decode cX9_fillsCookie 95 = .ok (.if_icmp .gt 17, 3) := by decide +kernel
theorem dX9_fillsCookie_98 : decode cX9_fillsCookie 98 = .ok (.aload_n 0, 1) := by decide +kernel
theorem dX9_fillsCookie_99 : decode cX9_fillsCookie 99 = .ok (.sipush 8800, 3) := by decide +kernel
theorem dX9_fillsCookie_102 : decode cX9_fillsCookie 102 = .ok (.aload_n 0, 1) := by decide +kernel
theorem dX9_fillsCookie_103 : decode cX9_fillsCookie 103 = .ok (.getfield 256, 3) := by decide +kernel
theorem dX9_fillsCookie_106 : decode cX9_fillsCookie 106 = .ok (.sipush 8662, 3) := by decide +kernel
theorem dX9_fillsCookie_109 : decode cX9_fillsCookie 109 = .ok (.invokevirtual 148, 3) := by decide +kernel
theorem dX9_fillsCookie_112 : decode cX9_fillsCookie 112 = .ok (.aload_n 0, 1) := by decide +kernel
theorem dX9_fillsCookie_113 : decode cX9_fillsCookie 113 = .ok (.getfield 285, 3) := by decide +kernel
theorem dX9_fillsCookie_116 : decode cX9_fillsCookie 116 = .ok (.ifCond .eq 38, 3) := by decide +kernel
theorem dX9_fillsCookie_119 : decode cX9_fillsCookie 119 = .ok (.aload_n 0, 1) := by decide +kernel
theorem dX9_fillsCookie_120 : decode cX9_fillsCookie 120 = .ok (.getfield 7, 3) := by decide +kernel
theorem dX9_fillsCookie_123 : decode cX9_fillsCookie 123 = .ok (.sipush 8603, 3) := by decide +kernel
theorem dX9_fillsCookie_126 : decode cX9_fillsCookie 126 = .ok (.aload_n 0, 1) := by decide +kernel
theorem dX9_fillsCookie_127 : decode cX9_fillsCookie 127 = .ok (.getfield 291, 3) := by decide +kernel
theorem dX9_fillsCookie_130 : decode cX9_fillsCookie 130 = .ok (.i2l, 1) := by decide +kernel
theorem dX9_fillsCookie_131 : decode cX9_fillsCookie 131 = .ok (.lastore, 1) := by decide +kernel
theorem dX9_fillsCookie_132 : decode cX9_fillsCookie 132 = .ok (.aload_n 0, 1) := by decide +kernel
theorem dX9_fillsCookie_133 : decode cX9_fillsCookie 133 = .ok (.sipush 8400, 3) := by decide +kernel
theorem dX9_fillsCookie_136 : decode cX9_fillsCookie 136 = .ok (.aload_n 0, 1) := by decide +kernel
theorem dX9_fillsCookie_137 : decode cX9_fillsCookie 137 = .ok (.getfield 288, 3) := by decide +kernel
theorem dX9_fillsCookie_140 : decode cX9_fillsCookie 140 = .ok (.iadd, 1) := by decide +kernel
theorem dX9_fillsCookie_141 : decode cX9_fillsCookie 141 = .ok (.aload_n 0, 1) := by decide +kernel
theorem dX9_fillsCookie_142 : decode cX9_fillsCookie 142 = .ok (.getfield 291, 3) := by decide +kernel
theorem dX9_fillsCookie_145 : decode cX9_fillsCookie 145 = .ok (.sipush 8692, 3) := by decide +kernel
theorem dX9_fillsCookie_148 : decode cX9_fillsCookie 148 = .ok (.invokevirtual 148, 3) := by decide +kernel
theorem dX9_fillsCookie_151 : decode cX9_fillsCookie 151 = .ok (.goto 74, 3) := by decide +kernel
theorem dX9_fillsCookie_154 : decode cX9_fillsCookie 154 = .ok (.aload_n 0, 1) := by decide +kernel
theorem dX9_fillsCookie_155 : decode cX9_fillsCookie 155 = .ok (.getfield 7, 3) := by decide +kernel
theorem dX9_fillsCookie_158 : decode cX9_fillsCookie 158 = .ok (.bipush 103, 2) := by decide +kernel
theorem dX9_fillsCookie_160 : decode cX9_fillsCookie 160 = .ok (.laload, 1) := by decide +kernel
theorem dX9_fillsCookie_161 : decode cX9_fillsCookie 161 = .ok (.l2i, 1) := by decide +kernel
theorem dX9_fillsCookie_162 : decode cX9_fillsCookie 162 = .ok (.iconst 1, 1) := by decide +kernel
theorem dX9_fillsCookie_163 : decode cX9_fillsCookie 163 = .ok (.isub, 1) := by decide +kernel
theorem dX9_fillsCookie_164 : decode cX9_fillsCookie 164 = .ok (.istore_n 2, 1) := by decide +kernel
theorem dX9_fillsCookie_165 : decode cX9_fillsCookie 165 = .ok (.aload_n 0, 1) := by decide +kernel
theorem dX9_fillsCookie_166 : decode cX9_fillsCookie 166 = .ok (.getfield 7, 3) := by decide +kernel
theorem dX9_fillsCookie_169 : decode cX9_fillsCookie 169 = .ok (.sipush 134, 3) := by decide +kernel
theorem dX9_fillsCookie_172 : decode cX9_fillsCookie 172 = .ok (.iload_n 2, 1) := by decide +kernel
theorem dX9_fillsCookie_173 : decode cX9_fillsCookie 173 = .ok (.iadd, 1) := by decide +kernel
theorem dX9_fillsCookie_174 : decode cX9_fillsCookie 174 = .ok (.laload, 1) := by decide +kernel
theorem dX9_fillsCookie_175 : decode cX9_fillsCookie 175 = .ok (.ldc2_w 144, 3) := by decide +kernel
theorem dX9_fillsCookie_178 : decode cX9_fillsCookie 178 = .ok (.lcmp, 1) := by decide +kernel
theorem dX9_fillsCookie_179 : decode cX9_fillsCookie 179 = .ok (.ifCond .eq 9, 3) := by decide +kernel
theorem dX9_fillsCookie_182 : decode cX9_fillsCookie 182 = .ok (.iinc 2 (-1), 3) := by decide +kernel
theorem dX9_fillsCookie_185 : decode cX9_fillsCookie 185 = .ok (.goto (-20), 3) := by decide +kernel
theorem dX9_fillsCookie_188 : decode cX9_fillsCookie 188 = .ok (.aload_n 0, 1) := by decide +kernel
theorem dX9_fillsCookie_189 : decode cX9_fillsCookie 189 = .ok (.getfield 7, 3) := by decide +kernel
theorem dX9_fillsCookie_192 : decode cX9_fillsCookie 192 = .ok (.sipush 8603, 3) := by decide +kernel
theorem dX9_fillsCookie_195 : decode cX9_fillsCookie 195 = .ok (.iload_n 2, 1) := by decide +kernel
theorem dX9_fillsCookie_196 : decode cX9_fillsCookie 196 = .ok (.ifCond .ne 7, 3) := by decide +kernel
theorem dX9_fillsCookie_199 : decode cX9_fillsCookie 199 = .ok (.lconst 1, 1) := by decide +kernel
theorem dX9_fillsCookie_200 : decode cX9_fillsCookie 200 = .ok (.goto 5, 3) := by decide +kernel
theorem dX9_fillsCookie_203 : decode cX9_fillsCookie 203 = .ok (.iload_n 2, 1) := by decide +kernel
theorem dX9_fillsCookie_204 : decode cX9_fillsCookie 204 = .ok (.i2l, 1) := by decide +kernel
theorem dX9_fillsCookie_205 : decode cX9_fillsCookie 205 = .ok (.lastore, 1) := by decide +kernel
theorem dX9_fillsCookie_206 : decode cX9_fillsCookie 206 = .ok (.aload_n 0, 1) := by decide +kernel
theorem dX9_fillsCookie_207 : decode cX9_fillsCookie 207 = .ok (.sipush 134, 3) := by decide +kernel
theorem dX9_fillsCookie_210 : decode cX9_fillsCookie 210 = .ok (.iload_n 2, 1) := by decide +kernel
theorem dX9_fillsCookie_211 : decode cX9_fillsCookie 211 = .ok (.ifCond .ne 7, 3) := by decide +kernel
theorem dX9_fillsCookie_214 : decode cX9_fillsCookie 214 = .ok (.iconst 1, 1) := by decide +kernel
theorem dX9_fillsCookie_215 : decode cX9_fillsCookie 215 = .ok (.goto 4, 3) := by decide +kernel
theorem dX9_fillsCookie_218 : decode cX9_fillsCookie 218 = .ok (.iload_n 2, 1) := by decide +kernel
theorem dX9_fillsCookie_219 : decode cX9_fillsCookie 219 = .ok (.sipush 8692, 3) := by decide +kernel
theorem dX9_fillsCookie_222 : decode cX9_fillsCookie 222 = .ok (.invokevirtual 148, 3) := by decide +kernel
theorem dX9_fillsCookie_225 : decode cX9_fillsCookie 225 = .ok (.aload_n 0, 1) := by decide +kernel
theorem dX9_fillsCookie_226 : decode cX9_fillsCookie 226 = .ok (.getfield 7, 3) := by decide +kernel
theorem dX9_fillsCookie_229 : decode cX9_fillsCookie 229 = .ok (.sipush 8600, 3) := by decide +kernel
theorem dX9_fillsCookie_232 : decode cX9_fillsCookie 232 = .ok (.aload_n 0, 1) := by decide +kernel
theorem dX9_fillsCookie_233 : decode cX9_fillsCookie 233 = .ok (.getfield 304, 3) := by decide +kernel
theorem dX9_fillsCookie_236 : decode cX9_fillsCookie 236 = .ok (.i2l, 1) := by decide +kernel
theorem dX9_fillsCookie_237 : decode cX9_fillsCookie 237 = .ok (.lastore, 1) := by decide +kernel
theorem dX9_fillsCookie_238 : decode cX9_fillsCookie 238 = .ok (.aload_n 0, 1) := by decide +kernel
theorem dX9_fillsCookie_239 : decode cX9_fillsCookie 239 = .ok (.getfield 7, 3) := by decide +kernel
theorem dX9_fillsCookie_242 : decode cX9_fillsCookie 242 = .ok (.sipush 8601, 3) := by decide +kernel
theorem dX9_fillsCookie_245 : decode cX9_fillsCookie 245 = .ok (.aload_n 0, 1) := by decide +kernel
theorem dX9_fillsCookie_246 : decode cX9_fillsCookie 246 = .ok (.getfield 310, 3) := by decide +kernel
theorem dX9_fillsCookie_249 : decode cX9_fillsCookie 249 = .ok (.i2l, 1) := by decide +kernel
theorem dX9_fillsCookie_250 : decode cX9_fillsCookie 250 = .ok (.lastore, 1) := by decide +kernel
theorem dX9_fillsCookie_251 : decode cX9_fillsCookie 251 = .ok (.aload_n 0, 1) := by decide +kernel
theorem dX9_fillsCookie_252 : decode cX9_fillsCookie 252 = .ok (.getfield 304, 3) := by decide +kernel
theorem dX9_fillsCookie_255 : decode cX9_fillsCookie 255 = .ok (.bipush 16, 2) := by decide +kernel
theorem dX9_fillsCookie_257 : decode cX9_fillsCookie 257 = .ok (.if_icmp .gt 50, 3) := by decide +kernel
theorem dX9_fillsCookie_260 : decode cX9_fillsCookie 260 = .ok (.aload_n 0, 1) := by decide +kernel
theorem dX9_fillsCookie_261 : decode cX9_fillsCookie 261 = .ok (.getfield 310, 3) := by decide +kernel
theorem dX9_fillsCookie_264 : decode cX9_fillsCookie 264 = .ok (.bipush 32, 2) := by decide +kernel
theorem dX9_fillsCookie_266 : decode cX9_fillsCookie 266 = .ok (.if_icmp .gt 41, 3) := by decide +kernel
theorem dX9_fillsCookie_269 : decode cX9_fillsCookie 269 = .ok (.aload_n 0, 1) := by decide +kernel
theorem dX9_fillsCookie_270 : decode cX9_fillsCookie 270 = .ok (.sipush 8400, 3) := by decide +kernel
theorem dX9_fillsCookie_273 : decode cX9_fillsCookie 273 = .ok (.aload_n 0, 1) := by decide +kernel
theorem dX9_fillsCookie_274 : decode cX9_fillsCookie 274 = .ok (.getfield 301, 3) := by decide +kernel
theorem dX9_fillsCookie_277 : decode cX9_fillsCookie 277 = .ok (.iadd, 1) := by decide +kernel
theorem dX9_fillsCookie_278 : decode cX9_fillsCookie 278 = .ok (.aload_n 0, 1) := by decide +kernel
theorem dX9_fillsCookie_279 : decode cX9_fillsCookie 279 = .ok (.getfield 304, 3) := by decide +kernel
theorem dX9_fillsCookie_282 : decode cX9_fillsCookie 282 = .ok (.sipush 8614, 3) := by decide +kernel
theorem dX9_fillsCookie_285 : decode cX9_fillsCookie 285 = .ok (.invokevirtual 148, 3) := by decide +kernel
theorem dX9_fillsCookie_288 : decode cX9_fillsCookie 288 = .ok (.aload_n 0, 1) := by decide +kernel
theorem dX9_fillsCookie_289 : decode cX9_fillsCookie 289 = .ok (.sipush 8400, 3) := by decide +kernel
theorem dX9_fillsCookie_292 : decode cX9_fillsCookie 292 = .ok (.aload_n 0, 1) := by decide +kernel
theorem dX9_fillsCookie_293 : decode cX9_fillsCookie 293 = .ok (.getfield 307, 3) := by decide +kernel
theorem dX9_fillsCookie_296 : decode cX9_fillsCookie 296 = .ok (.iadd, 1) := by decide +kernel
theorem dX9_fillsCookie_297 : decode cX9_fillsCookie 297 = .ok (.aload_n 0, 1) := by decide +kernel
theorem dX9_fillsCookie_298 : decode cX9_fillsCookie 298 = .ok (.getfield 310, 3) := by decide +kernel
theorem dX9_fillsCookie_301 : decode cX9_fillsCookie 301 = .ok (.sipush 8630, 3) := by decide +kernel
theorem dX9_fillsCookie_304 : decode cX9_fillsCookie 304 = .ok (.invokevirtual 148, 3) := by decide +kernel
theorem dX9_fillsCookie_307 : decode cX9_fillsCookie 307 = .ok (.return_, 1) := by decide +kernel
theorem dX9_expires_0 : decode cX9_expires 0 = .ok (.aload_n 0, 1) := by decide +kernel
theorem dX9_expires_1 : decode cX9_expires 1 = .ok (.getfield 7, 3) := by decide +kernel
theorem dX9_expires_4 : decode cX9_expires 4 = .ok (.iconst 0, 1) := by decide +kernel
theorem dX9_expires_5 : decode cX9_expires 5 = .ok (.laload, 1) := by decide +kernel
theorem dX9_expires_6 : decode cX9_expires 6 = .ok (.ldc2_w 319, 3) := by decide +kernel
theorem dX9_expires_9 : decode cX9_expires 9 = .ok (.ladd, 1) := by decide +kernel
theorem dX9_expires_10 : decode cX9_expires 10 = .ok (.lstore_n 1, 1) := by decide +kernel
theorem dX9_expires_11 : decode cX9_expires 11 = .ok (.aload_n 0, 1) := by decide +kernel
theorem dX9_expires_12 : decode cX9_expires 12 = .ok (.getfield 247, 3) := by decide +kernel
theorem dX9_expires_15 : decode cX9_expires 15 = .ok (.ifCond .eq 52, 3) := by decide +kernel
theorem dX9_expires_18 : decode cX9_expires 18 = .ok (.aload_n 0, 1) := by decide +kernel
theorem dX9_expires_19 : decode cX9_expires 19 = .ok (.getfield 7, 3) := by decide +kernel
theorem dX9_expires_22 : decode cX9_expires 22 = .ok (.sipush 8604, 3) := by decide +kernel
theorem dX9_expires_25 : decode cX9_expires 25 = .ok (.aload_n 0, 1) := by decide +kernel
theorem dX9_expires_26 : decode cX9_expires 26 = .ok (.getfield 250, 3) := by decide +kernel
theorem dX9_expires_29 : decode cX9_expires 29 = .ok (.ldc2_w 319, 3) := by decide +kernel
theorem dX9_expires_32 : decode cX9_expires 32 = .ok (.lcmp, 1) := by decide +kernel
theorem dX9_expires_33 : decode cX9_expires 33 = .ok (.ifCond .le 7, 3) := by decide +kernel
theorem dX9_expires_36 : decode cX9_expires 36 = .ok (.lload_n 1, 1) := by decide +kernel
theorem dX9_expires_37 : decode cX9_expires 37 = .ok (.goto 14, 3) := by decide +kernel
theorem dX9_expires_40 : decode cX9_expires 40 = .ok (.aload_n 0, 1) := by decide +kernel
theorem dX9_expires_41 : decode cX9_expires 41 = .ok (.getfield 7, 3) := by decide +kernel
theorem dX9_expires_44 : decode cX9_expires 44 = .ok (.iconst 0, 1) := by decide +kernel
theorem dX9_expires_45 : decode cX9_expires 45 = .ok (.laload, 1) := by decide +kernel
theorem dX9_expires_46 : decode cX9_expires 46 = .ok (.aload_n 0, 1) := by decide +kernel
theorem dX9_expires_47 : decode cX9_expires 47 = .ok (.getfield 250, 3) := by decide +kernel
theorem dX9_expires_50 : decode cX9_expires 50 = .ok (.ladd, 1) := by decide +kernel
theorem dX9_expires_51 : decode cX9_expires 51 = .ok (.lastore, 1) := by decide +kernel
theorem dX9_expires_52 : decode cX9_expires 52 = .ok (.aload_n 0, 1) := by decide +kernel
theorem dX9_expires_53 : decode cX9_expires 53 = .ok (.getfield 250, 3) := by decide +kernel
theorem dX9_expires_56 : decode cX9_expires 56 = .ok (.lconst 0, 1) := by decide +kernel
theorem dX9_expires_57 : decode cX9_expires 57 = .ok (.lcmp, 1) := by decide +kernel
theorem dX9_expires_58 : decode cX9_expires 58 = .ok (.ifCond .gt 7, 3) := by decide +kernel
theorem dX9_expires_61 : decode cX9_expires 61 = .ok (.iconst 1, 1) := by decide +kernel
theorem dX9_expires_62 : decode cX9_expires 62 = .ok (.goto 4, 3) := by decide +kernel
theorem dX9_expires_65 : decode cX9_expires 65 = .ok (.iconst 0, 1) := by decide +kernel
theorem dX9_expires_66 : decode cX9_expires 66 = .ok (.ireturn, 1) := by decide +kernel
theorem dX9_expires_67 : decode cX9_expires 67 = .ok (.aload_n 0, 1) := by decide +kernel
theorem dX9_expires_68 : decode cX9_expires 68 = .ok (.getfield 7, 3) := by decide +kernel
theorem dX9_expires_71 : decode cX9_expires 71 = .ok (.sipush 8604, 3) := by decide +kernel
theorem dX9_expires_74 : decode cX9_expires 74 = .ok (.aload_n 0, 1) := by decide +kernel
theorem dX9_expires_75 : decode cX9_expires 75 = .ok (.getfield 233, 3) := by decide +kernel
theorem dX9_expires_78 : decode cX9_expires 78 = .ok (.ifCond .ne 9, 3) := by decide +kernel
theorem dX9_expires_81 : decode cX9_expires 81 = .ok (.ldc2_w 136, 3) := by decide +kernel
theorem dX9_expires_84 : decode cX9_expires 84 = .ok (.goto 20, 3) := by decide +kernel
theorem dX9_expires_87 : decode cX9_expires 87 = .ok (.aload_n 0, 1) := by decide +kernel
theorem dX9_expires_88 : decode cX9_expires 88 = .ok (.getfield 243, 3) := by decide +kernel
theorem dX9_expires_91 : decode cX9_expires 91 = .ok (.lload_n 1, 1) := by decide +kernel
theorem dX9_expires_92 : decode cX9_expires 92 = .ok (.lcmp, 1) := by decide +kernel
theorem dX9_expires_93 : decode cX9_expires 93 = .ok (.ifCond .le 7, 3) := by decide +kernel
theorem dX9_expires_96 : decode cX9_expires 96 = .ok (.lload_n 1, 1) := by decide +kernel
theorem dX9_expires_97 : decode cX9_expires 97 = .ok (.goto 7, 3) := by decide +kernel
theorem dX9_expires_100 : decode cX9_expires 100 = .ok (.aload_n 0, 1) := by decide +kernel
theorem dX9_expires_101 : decode cX9_expires 101 = .ok (.getfield 243, 3) := by decide +kernel
theorem dX9_expires_104 : decode cX9_expires 104 = .ok (.lastore, 1) := by decide +kernel
theorem dX9_expires_105 : decode cX9_expires 105 = .ok (.aload_n 0, 1) := by decide +kernel
theorem dX9_expires_106 : decode cX9_expires 106 = .ok (.getfield 233, 3) := by decide +kernel
theorem dX9_expires_109 : decode cX9_expires 109 = .ok (.ifCond .eq 21, 3) := by decide +kernel
theorem dX9_expires_112 : decode cX9_expires 112 = .ok (.aload_n 0, 1) := by decide +kernel
theorem dX9_expires_113 : decode cX9_expires 113 = .ok (.getfield 243, 3) := by decide +kernel
theorem dX9_expires_116 : decode cX9_expires 116 = .ok (.aload_n 0, 1) := by decide +kernel
theorem dX9_expires_117 : decode cX9_expires 117 = .ok (.getfield 7, 3) := by decide +kernel
theorem dX9_expires_120 : decode cX9_expires 120 = .ok (.iconst 0, 1) := by decide +kernel
theorem dX9_expires_121 : decode cX9_expires 121 = .ok (.laload, 1) := by decide +kernel
theorem dX9_expires_122 : decode cX9_expires 122 = .ok (.lcmp, 1) := by decide +kernel
theorem dX9_expires_123 : decode cX9_expires 123 = .ok (.ifCond .gt 7, 3) := by decide +kernel
theorem dX9_expires_126 : decode cX9_expires 126 = .ok (.iconst 1, 1) := by decide +kernel
theorem dX9_expires_127 : decode cX9_expires 127 = .ok (.goto 4, 3) := by decide +kernel
theorem dX9_expires_130 : decode cX9_expires 130 = .ok (.iconst 0, 1) := by decide +kernel
theorem dX9_expires_131 : decode cX9_expires 131 = .ok (.ireturn, 1) := by decide +kernel
theorem dX9_cookie_0 : decode cX9_cookie 0 = .ok (.sipush 2500, 3) := by decide +kernel
theorem dX9_cookie_3 : decode cX9_cookie 3 = .ok (.sipush 140, 3) := by decide +kernel
theorem dX9_cookie_6 : decode cX9_cookie 6 = .ok (.iload_n 0, 1) := by decide +kernel
theorem dX9_cookie_7 : decode cX9_cookie 7 = .ok (.imul, 1) := by decide +kernel
theorem dX9_cookie_8 : decode cX9_cookie 8 = .ok (.iadd, 1) := by decide +kernel
theorem dX9_cookie_9 : decode cX9_cookie 9 = .ok (.ireturn, 1) := by decide +kernel
theorem dX9_haveOneName_0 : decode cX9_haveOneName 0 = .ok (.aload_n 0, 1) := by decide +kernel
theorem dX9_haveOneName_1 : decode cX9_haveOneName 1 = .ok (.iload_n 1, 1) := by decide +kernel
theorem dX9_haveOneName_2 : decode cX9_haveOneName 2 = .ok (.bipush 14, 2) := by decide +kernel
theorem dX9_haveOneName_4 : decode cX9_haveOneName 4 = .ok (.iadd, 1) := by decide +kernel
theorem dX9_haveOneName_5 : decode cX9_haveOneName 5 = .ok (.aload_n 0, 1) := by decide +kernel
theorem dX9_haveOneName_6 : decode cX9_haveOneName 6 = .ok (.getfield 7, 3) := by decide +kernel
theorem dX9_haveOneName_9 : decode cX9_haveOneName 9 = .ok (.iload_n 1, 1) := by decide +kernel
theorem dX9_haveOneName_10 : decode cX9_haveOneName 10 = .ok (.laload, 1) := by decide +kernel
theorem dX9_haveOneName_11 : decode cX9_haveOneName 11 = .ok (.l2i, 1) := by decide +kernel
theorem dX9_haveOneName_12 : decode cX9_haveOneName 12 = .ok (.iload_n 2, 1) := by decide +kernel
theorem dX9_haveOneName_13 : decode cX9_haveOneName 13 = .ok (.bipush 14, 2) := by decide +kernel
theorem dX9_haveOneName_15 : decode cX9_haveOneName 15 = .ok (.iadd, 1) := by decide +kernel
theorem dX9_haveOneName_16 : decode cX9_haveOneName 16 = .ok (.aload_n 0, 1) := by decide +kernel
theorem dX9_haveOneName_17 : decode cX9_haveOneName 17 = .ok (.getfield 7, 3) := by decide +kernel
theorem dX9_haveOneName_20 : decode cX9_haveOneName 20 = .ok (.iload_n 2, 1) := by decide +kernel
theorem dX9_haveOneName_21 : decode cX9_haveOneName 21 = .ok (.laload, 1) := by decide +kernel
theorem dX9_haveOneName_22 : decode cX9_haveOneName 22 = .ok (.l2i, 1) := by decide +kernel
theorem dX9_haveOneName_23 : decode cX9_haveOneName 23 = .ok (.invokevirtual 108, 3) := by decide +kernel
theorem dX9_haveOneName_26 : decode cX9_haveOneName 26 = .ok (.ireturn, 1) := by decide +kernel
theorem dX9_areOne_0 : decode cX9_areOne 0 = .ok (.aload_n 0, 1) := by decide +kernel
theorem dX9_areOne_1 : decode cX9_areOne 1 = .ok (.iload_n 1, 1) := by decide +kernel
theorem dX9_areOne_2 : decode cX9_areOne 2 = .ok (.iload_n 2, 1) := by decide +kernel
theorem dX9_areOne_3 : decode cX9_areOne 3 = .ok (.invokevirtual 321, 3) := by decide +kernel
theorem dX9_areOne_6 : decode cX9_areOne 6 = .ok (.ifCond .eq 29, 3) := by decide +kernel
theorem dX9_areOne_9 : decode cX9_areOne 9 = .ok (.aload_n 0, 1) := by decide +kernel
theorem dX9_areOne_10 : decode cX9_areOne 10 = .ok (.getfield 7, 3) := by decide +kernel
theorem dX9_areOne_13 : decode cX9_areOne 13 = .ok (.iload_n 1, 1) := by decide +kernel
theorem dX9_areOne_14 : decode cX9_areOne 14 = .ok (.bipush 8, 2) := by decide +kernel
theorem dX9_areOne_16 : decode cX9_areOne 16 = .ok (.iadd, 1) := by decide +kernel
theorem dX9_areOne_17 : decode cX9_areOne 17 = .ok (.laload, 1) := by decide +kernel
theorem dX9_areOne_18 : decode cX9_areOne 18 = .ok (.aload_n 0, 1) := by decide +kernel
theorem dX9_areOne_19 : decode cX9_areOne 19 = .ok (.getfield 7, 3) := by decide +kernel
theorem dX9_areOne_22 : decode cX9_areOne 22 = .ok (.iload_n 2, 1) := by decide +kernel
theorem dX9_areOne_23 : decode cX9_areOne 23 = .ok (.bipush 8, 2) := by decide +kernel
theorem dX9_areOne_25 : decode cX9_areOne 25 = .ok (.iadd, 1) := by decide +kernel
theorem dX9_areOne_26 : decode cX9_areOne 26 = .ok (.laload, 1) := by decide +kernel
theorem dX9_areOne_27 : decode cX9_areOne 27 = .ok (.lcmp, 1) := by decide +kernel
theorem dX9_areOne_28 : decode cX9_areOne 28 = .ok (.ifCond .ne 7, 3) := by decide +kernel
theorem dX9_areOne_31 : decode cX9_areOne 31 = .ok (.iconst 1, 1) := by decide +kernel
theorem dX9_areOne_32 : decode cX9_areOne 32 = .ok (.goto 4, 3) := by decide +kernel
theorem dX9_areOne_35 : decode cX9_areOne 35 = .ok (.iconst 0, 1) := by decide +kernel
theorem dX9_areOne_36 : decode cX9_areOne 36 = .ok (.istore_n 3, 1) := by decide +kernel
theorem dX9_areOne_37 : decode cX9_areOne 37 = .ok (.iload_n 3, 1) := by decide +kernel
theorem dX9_areOne_38 : decode cX9_areOne 38 = .ok (.ifCond .eq 73, 3) := by decide +kernel
theorem dX9_areOne_41 : decode cX9_areOne 41 = .ok (.aload_n 0, 1) := by decide +kernel
theorem dX9_areOne_42 : decode cX9_areOne 42 = .ok (.iload_n 1, 1) := by decide +kernel
theorem dX9_areOne_43 : decode cX9_areOne 43 = .ok (.bipush 62, 2) := by decide +kernel
theorem dX9_areOne_45 : decode cX9_areOne 45 = .ok (.iadd, 1) := by decide +kernel
theorem dX9_areOne_46 : decode cX9_areOne 46 = .ok (.aload_n 0, 1) := by decide +kernel
theorem dX9_areOne_47 : decode cX9_areOne 47 = .ok (.getfield 7, 3) := by decide +kernel
theorem dX9_areOne_50 : decode cX9_areOne 50 = .ok (.iload_n 1, 1) := by decide +kernel
theorem dX9_areOne_51 : decode cX9_areOne 51 = .ok (.iconst 2, 1) := by decide +kernel
theorem dX9_areOne_52 : decode cX9_areOne 52 = .ok (.iadd, 1) := by decide +kernel
theorem dX9_areOne_53 : decode cX9_areOne 53 = .ok (.laload, 1) := by decide +kernel
theorem dX9_areOne_54 : decode cX9_areOne 54 = .ok (.l2i, 1) := by decide +kernel
theorem dX9_areOne_55 : decode cX9_areOne 55 = .ok (.iload_n 2, 1) := by decide +kernel
theorem dX9_areOne_56 : decode cX9_areOne 56 = .ok (.bipush 62, 2) := by decide +kernel
theorem dX9_areOne_58 : decode cX9_areOne 58 = .ok (.iadd, 1) := by decide +kernel
theorem dX9_areOne_59 : decode cX9_areOne 59 = .ok (.aload_n 0, 1) := by decide +kernel
theorem dX9_areOne_60 : decode cX9_areOne 60 = .ok (.getfield 7, 3) := by decide +kernel
theorem dX9_areOne_63 : decode cX9_areOne 63 = .ok (.iload_n 2, 1) := by decide +kernel
theorem dX9_areOne_64 : decode cX9_areOne 64 = .ok (.iconst 2, 1) := by decide +kernel
theorem dX9_areOne_65 : decode cX9_areOne 65 = .ok (.iadd, 1) := by decide +kernel
theorem dX9_areOne_66 : decode cX9_areOne 66 = .ok (.laload, 1) := by decide +kernel
theorem dX9_areOne_67 : decode cX9_areOne 67 = .ok (.l2i, 1) := by decide +kernel
theorem dX9_areOne_68 : decode cX9_areOne 68 = .ok (.invokevirtual 108, 3) := by decide +kernel
theorem dX9_areOne_71 : decode cX9_areOne 71 = .ok (.ifCond .eq 40, 3) := by decide +kernel
theorem dX9_areOne_74 : decode cX9_areOne 74 = .ok (.aload_n 0, 1) := by decide +kernel
theorem dX9_areOne_75 : decode cX9_areOne 75 = .ok (.iload_n 1, 1) := by decide +kernel
theorem dX9_areOne_76 : decode cX9_areOne 76 = .ok (.bipush 92, 2) := by decide +kernel
theorem dX9_areOne_78 : decode cX9_areOne 78 = .ok (.iadd, 1) := by decide +kernel
theorem dX9_areOne_79 : decode cX9_areOne 79 = .ok (.aload_n 0, 1) := by decide +kernel
theorem dX9_areOne_80 : decode cX9_areOne 80 = .ok (.getfield 7, 3) := by decide +kernel
theorem dX9_areOne_83 : decode cX9_areOne 83 = .ok (.iload_n 1, 1) := by decide +kernel
theorem dX9_areOne_84 : decode cX9_areOne 84 = .ok (.iconst 3, 1) := by decide +kernel
theorem dX9_areOne_85 : decode cX9_areOne 85 = .ok (.iadd, 1) := by decide +kernel
theorem dX9_areOne_86 : decode cX9_areOne 86 = .ok (.laload, 1) := by decide +kernel
theorem dX9_areOne_87 : decode cX9_areOne 87 = .ok (.l2i, 1) := by decide +kernel
theorem dX9_areOne_88 : decode cX9_areOne 88 = .ok (.iload_n 2, 1) := by decide +kernel
theorem dX9_areOne_89 : decode cX9_areOne 89 = .ok (.bipush 92, 2) := by decide +kernel
theorem dX9_areOne_91 : decode cX9_areOne 91 = .ok (.iadd, 1) := by decide +kernel
theorem dX9_areOne_92 : decode cX9_areOne 92 = .ok (.aload_n 0, 1) := by decide +kernel
theorem dX9_areOne_93 : decode cX9_areOne 93 = .ok (.getfield 7, 3) := by decide +kernel
theorem dX9_areOne_96 : decode cX9_areOne 96 = .ok (.iload_n 2, 1) := by decide +kernel
theorem dX9_areOne_97 : decode cX9_areOne 97 = .ok (.iconst 3, 1) := by decide +kernel
theorem dX9_areOne_98 : decode cX9_areOne 98 = .ok (.iadd, 1) := by decide +kernel
theorem dX9_areOne_99 : decode cX9_areOne 99 = .ok (.laload, 1) := by decide +kernel
theorem dX9_areOne_100 : decode cX9_areOne 100 = .ok (.l2i, 1) := by decide +kernel
theorem dX9_areOne_101 : decode cX9_areOne 101 = .ok (.invokevirtual 108, 3) := by decide +kernel
theorem dX9_areOne_104 : decode cX9_areOne 104 = .ok (.ifCond .eq 7, 3) := by decide +kernel
theorem dX9_areOne_107 : decode cX9_areOne 107 = .ok (.iconst 1, 1) := by decide +kernel
theorem dX9_areOne_108 : decode cX9_areOne 108 = .ok (.goto 4, 3) := by decide +kernel
theorem dX9_areOne_111 : decode cX9_areOne 111 = .ok (.iconst 0, 1) := by decide +kernel
theorem dX9_areOne_112 : decode cX9_areOne 112 = .ok (.ireturn, 1) := by decide +kernel
theorem dX9_elder_0 : decode cX9_elder 0 = .ok (.iconst 0, 1) := by decide +kernel
theorem dX9_elder_1 : decode cX9_elder 1 = .ok (.istore_n 1, 1) := by decide +kernel
theorem dX9_elder_2 : decode cX9_elder 2 = .ok (.iload_n 1, 1) := by decide +kernel
theorem dX9_elder_3 : decode cX9_elder 3 = .ok (.i2l, 1) := by decide +kernel
theorem dX9_elder_4 : decode cX9_elder 4 = .ok (.aload_n 0, 1) := by decide +kernel
theorem dX9_elder_5 : decode cX9_elder 5 = .ok (.getfield 7, 3) := by decide +kernel
theorem dX9_elder_8 : decode cX9_elder 8 = .ok (.iconst 5, 1) := by decide +kernel
theorem dX9_elder_9 : decode cX9_elder 9 = .ok (.laload, 1) := by decide +kernel
theorem dX9_elder_10 : decode cX9_elder 10 = .ok (.lcmp, 1) := by decide +kernel
theorem dX9_elder_11 : decode cX9_elder 11 = .ok (.ifCond .ge 25, 3) := by decide +kernel
theorem dX9_elder_14 : decode cX9_elder 14 = .ok (.aload_n 0, 1) := by decide +kernel
theorem dX9_elder_15 : decode cX9_elder 15 = .ok (.iload_n 1, 1) := by decide +kernel
theorem dX9_elder_16 : decode cX9_elder 16 = .ok (.invokestatic 324, 3) := by decide +kernel
theorem dX9_elder_19 : decode cX9_elder 19 = .ok (.sipush 8600, 3) := by decide +kernel
theorem dX9_elder_22 : decode cX9_elder 22 = .ok (.invokevirtual 327, 3) := by decide +kernel
theorem dX9_elder_25 : decode cX9_elder 25 = .ok (.ifCond .eq 5, 3) := by decide +kernel
theorem dX9_elder_28 : decode cX9_elder 28 = .ok (.iload_n 1, 1) := by decide +kernel
theorem dX9_elder_29 : decode cX9_elder 29 = .ok (.ireturn, 1) := by decide +kernel
theorem dX9_elder_30 : decode cX9_elder 30 = .ok (.iinc 1 1, 3) := by decide +kernel
theorem dX9_elder_33 : decode cX9_elder 33 = .ok (.goto (-31), 3) := by decide +kernel
theorem dX9_elder_36 : decode cX9_elder 36 = .ok (.iconst (-1), 1) := by decide +kernel
theorem dX9_elder_37 : decode cX9_elder 37 = .ok (.ireturn, 1) := by decide +kernel
theorem dX9_pathMatches_0 : decode cX9_pathMatches 0 = .ok (.iload_n 2, 1) := by decide +kernel
theorem dX9_pathMatches_1 : decode cX9_pathMatches 1 = .ok (.iload 4, 2) := by decide +kernel
theorem dX9_pathMatches_3 : decode cX9_pathMatches 3 = .ok (.if_icmp .lt 16, 3) := by decide +kernel
theorem dX9_pathMatches_6 : decode cX9_pathMatches 6 = .ok (.aload_n 0, 1) := by decide +kernel
theorem dX9_pathMatches_7 : decode cX9_pathMatches 7 = .ok (.iload_n 1, 1) := by decide +kernel
theorem dX9_pathMatches_8 : decode cX9_pathMatches 8 = .ok (.iload 4, 2) := by decide +kernel
theorem dX9_pathMatches_10 : decode cX9_pathMatches 10 = .ok (.iload_n 3, 1) := by decide +kernel
theorem dX9_pathMatches_11 : decode cX9_pathMatches 11 = .ok (.iload 4, 2) := by decide +kernel
theorem dX9_pathMatches_13 : decode cX9_pathMatches 13 = .ok (.invokevirtual 108, 3) := by decide +kernel
theorem dX9_pathMatches_16 : decode cX9_pathMatches 16 = .ok (.ifCond .ne 5, 3) := by decide +kernel
theorem dX9_pathMatches_19 : decode cX9_pathMatches 19 = .ok (.iconst 0, 1) := by decide +kernel
theorem dX9_pathMatches_20 : decode cX9_pathMatches 20 = .ok (.ireturn, 1) := by decide +kernel
theorem dX9_pathMatches_21 : decode cX9_pathMatches 21 = .ok (.iload_n 2, 1) := by decide +kernel
theorem dX9_pathMatches_22 : decode cX9_pathMatches 22 = .ok (.iload 4, 2) := by decide +kernel
theorem dX9_pathMatches_24 : decode cX9_pathMatches 24 = .ok (.if_icmp .eq 37, 3) := by decide +kernel
theorem dX9_pathMatches_27 : decode cX9_pathMatches 27 = .ok (.aload_n 0, 1) := by decide +kernel
theorem dX9_pathMatches_28 : decode cX9_pathMatches 28 = .ok (.getfield 7, 3) := by decide +kernel
theorem dX9_pathMatches_31 : decode cX9_pathMatches 31 = .ok (.iload_n 3, 1) := by decide +kernel
theorem dX9_pathMatches_32 : decode cX9_pathMatches 32 = .ok (.iload 4, 2) := by decide +kernel
theorem dX9_pathMatches_34 : decode cX9_pathMatches 34 = .ok (.iadd, 1) := by decide +kernel
theorem dX9_pathMatches_35 : decode cX9_pathMatches 35 = .ok (.iconst 1, 1) := by decide +kernel
theorem dX9_pathMatches_36 : decode cX9_pathMatches 36 = .ok (.isub, 1) := by decide +kernel
theorem dX9_pathMatches_37 : decode cX9_pathMatches 37 = .ok (.laload, 1) := by decide +kernel
theorem dX9_pathMatches_38 : decode cX9_pathMatches 38 = .ok (.ldc2_w 144, 3) := by decide +kernel
theorem dX9_pathMatches_41 : decode cX9_pathMatches 41 = .ok (.lcmp, 1) := by decide +kernel
theorem dX9_pathMatches_42 : decode cX9_pathMatches 42 = .ok (.ifCond .eq 19, 3) := by decide +kernel
theorem dX9_pathMatches_45 : decode cX9_pathMatches 45 = .ok (.aload_n 0, 1) := by decide +kernel
theorem dX9_pathMatches_46 : decode cX9_pathMatches 46 = .ok (.getfield 7, 3) := by decide +kernel
theorem dX9_pathMatches_49 : decode cX9_pathMatches 49 = .ok (.iload_n 1, 1) := by decide +kernel
theorem dX9_pathMatches_50 : decode cX9_pathMatches 50 = .ok (.iload 4, 2) := by decide +kernel
theorem dX9_pathMatches_52 : decode cX9_pathMatches 52 = .ok (.iadd, 1) := by decide +kernel
theorem dX9_pathMatches_53 : decode cX9_pathMatches 53 = .ok (.laload, 1) := by decide +kernel
theorem dX9_pathMatches_54 : decode cX9_pathMatches 54 = .ok (.ldc2_w 144, 3) := by decide +kernel
theorem dX9_pathMatches_57 : decode cX9_pathMatches 57 = .ok (.lcmp, 1) := by decide +kernel
theorem dX9_pathMatches_58 : decode cX9_pathMatches 58 = .ok (.ifCond .ne 7, 3) := by decide +kernel
theorem dX9_pathMatches_61 : decode cX9_pathMatches 61 = .ok (.iconst 1, 1) := by decide +kernel
theorem dX9_pathMatches_62 : decode cX9_pathMatches 62 = .ok (.goto 4, 3) := by decide +kernel
theorem dX9_pathMatches_65 : decode cX9_pathMatches 65 = .ok (.iconst 0, 1) := by decide +kernel
theorem dX9_pathMatches_66 : decode cX9_pathMatches 66 = .ok (.ireturn, 1) := by decide +kernel
theorem dX9_hides_0 : decode cX9_hides 0 = .ok (.iconst 0, 1) := by decide +kernel
theorem dX9_hides_1 : decode cX9_hides 1 = .ok (.istore_n 1, 1) := by decide +kernel
theorem dX9_hides_2 : decode cX9_hides 2 = .ok (.iconst 0, 1) := by decide +kernel
theorem dX9_hides_3 : decode cX9_hides 3 = .ok (.istore_n 2, 1) := by decide +kernel
theorem dX9_hides_4 : decode cX9_hides 4 = .ok (.iload_n 2, 1) := by decide +kernel
theorem dX9_hides_5 : decode cX9_hides 5 = .ok (.i2l, 1) := by decide +kernel
theorem dX9_hides_6 : decode cX9_hides 6 = .ok (.aload_n 0, 1) := by decide +kernel
theorem dX9_hides_7 : decode cX9_hides 7 = .ok (.getfield 7, 3) := by decide +kernel
theorem dX9_hides_10 : decode cX9_hides 10 = .ok (.iconst 5, 1) := by decide +kernel
theorem dX9_hides_11 : decode cX9_hides 11 = .ok (.laload, 1) := by decide +kernel
theorem dX9_hides_12 : decode cX9_hides 12 = .ok (.lcmp, 1) := by decide +kernel
theorem dX9_hides_13 : decode cX9_hides 13 = .ok (.ifCond .ge 157, 3) := by decide +kernel
theorem dX9_hides_16 : decode cX9_hides 16 = .ok (.iload_n 2, 1) := by decide +kernel
theorem dX9_hides_17 : decode cX9_hides 17 = .ok (.invokestatic 324, 3) := by decide +kernel
theorem dX9_hides_20 : decode cX9_hides 20 = .ok (.istore_n 3, 1) := by decide +kernel
theorem dX9_hides_21 : decode cX9_hides 21 = .ok (.aload_n 0, 1) := by decide +kernel
theorem dX9_hides_22 : decode cX9_hides 22 = .ok (.iload_n 3, 1) := by decide +kernel
theorem dX9_hides_23 : decode cX9_hides 23 = .ok (.bipush 62, 2) := by decide +kernel
theorem dX9_hides_25 : decode cX9_hides 25 = .ok (.iadd, 1) := by decide +kernel
theorem dX9_hides_26 : decode cX9_hides 26 = .ok (.aload_n 0, 1) := by decide +kernel
theorem dX9_hides_27 : decode cX9_hides 27 = .ok (.getfield 7, 3) := by decide +kernel
theorem dX9_hides_30 : decode cX9_hides 30 = .ok (.iload_n 3, 1) := by decide +kernel
theorem dX9_hides_31 : decode cX9_hides 31 = .ok (.iconst 2, 1) := by decide +kernel
theorem dX9_hides_32 : decode cX9_hides 32 = .ok (.iadd, 1) := by decide +kernel
theorem dX9_hides_33 : decode cX9_hides 33 = .ok (.laload, 1) := by decide +kernel
theorem dX9_hides_34 : decode cX9_hides 34 = .ok (.l2i, 1) := by decide +kernel
theorem dX9_hides_35 : decode cX9_hides 35 = .ok (.sipush 8662, 3) := by decide +kernel
theorem dX9_hides_38 : decode cX9_hides 38 = .ok (.aload_n 0, 1) := by decide +kernel
theorem dX9_hides_39 : decode cX9_hides 39 = .ok (.getfield 7, 3) := by decide +kernel
theorem dX9_hides_42 : decode cX9_hides 42 = .ok (.sipush 8602, 3) := by decide +kernel
theorem dX9_hides_45 : decode cX9_hides 45 = .ok (.laload, 1) := by decide +kernel
theorem dX9_hides_46 : decode cX9_hides 46 = .ok (.l2i, 1) := by decide +kernel
theorem dX9_hides_47 : decode cX9_hides 47 = .ok (.invokevirtual 112, 3) := by decide +kernel
theorem dX9_hides_50 : decode cX9_hides 50 = .ok (.ifCond .ne 35, 3) := by decide +kernel
theorem dX9_hides_53 : decode cX9_hides 53 = .ok (.aload_n 0, 1) := by decide +kernel
theorem dX9_hides_54 : decode cX9_hides 54 = .ok (.sipush 8662, 3) := by decide +kernel
theorem dX9_hides_57 : decode cX9_hides 57 = .ok (.aload_n 0, 1) := by decide +kernel
theorem dX9_hides_58 : decode cX9_hides 58 = .ok (.getfield 7, 3) := by decide +kernel
theorem dX9_hides_61 : decode cX9_hides 61 = .ok (.sipush 8602, 3) := by decide +kernel
theorem dX9_hides_64 : decode cX9_hides 64 = .ok (.laload, 1) := by decide +kernel
theorem dX9_hides_65 : decode cX9_hides 65 = .ok (.l2i, 1) := by decide +kernel
theorem dX9_hides_66 : decode cX9_hides 66 = .ok (.iload_n 3, 1) := by decide +kernel
theorem dX9_hides_67 : decode cX9_hides 67 = .ok (.bipush 62, 2) := by decide +kernel
theorem dX9_hides_69 : decode cX9_hides 69 = .ok (.iadd, 1) := by decide +kernel
theorem dX9_hides_70 : decode cX9_hides 70 = .ok (.aload_n 0, 1) := by decide +kernel
theorem dX9_hides_71 : decode cX9_hides 71 = .ok (.getfield 7, 3) := by decide +kernel
theorem dX9_hides_74 : decode cX9_hides 74 = .ok (.iload_n 3, 1) := by decide +kernel
theorem dX9_hides_75 : decode cX9_hides 75 = .ok (.iconst 2, 1) := by decide +kernel
theorem dX9_hides_76 : decode cX9_hides 76 = .ok (.iadd, 1) := by decide +kernel
theorem dX9_hides_77 : decode cX9_hides 77 = .ok (.laload, 1) := by decide +kernel
theorem dX9_hides_78 : decode cX9_hides 78 = .ok (.l2i, 1) := by decide +kernel
theorem dX9_hides_79 : decode cX9_hides 79 = .ok (.invokevirtual 112, 3) := by decide +kernel
theorem dX9_hides_82 : decode cX9_hides 82 = .ok (.ifCond .eq 7, 3) := by decide +kernel
theorem dX9_hides_85 : decode cX9_hides 85 = .ok (.iconst 1, 1) := by decide +kernel
theorem dX9_hides_86 : decode cX9_hides 86 = .ok (.goto 4, 3) := by decide +kernel
theorem dX9_hides_89 : decode cX9_hides 89 = .ok (.iconst 0, 1) := by decide +kernel
theorem dX9_hides_90 : decode cX9_hides 90 = .ok (.istore 4, 2) := by decide +kernel
theorem dX9_hides_92 : decode cX9_hides 92 = .ok (.iload_n 1, 1) := by decide +kernel
theorem dX9_hides_93 : decode cX9_hides 93 = .ok (.ifCond .ne 65, 3) := by decide +kernel
theorem dX9_hides_96 : decode cX9_hides 96 = .ok (.aload_n 0, 1) := by decide +kernel
theorem dX9_hides_97 : decode cX9_hides 97 = .ok (.getfield 7, 3) := by decide +kernel
theorem dX9_hides_100 : decode cX9_hides 100 = .ok (.iload_n 3, 1) := by decide +kernel
theorem dX9_hides_101 : decode cX9_hides 101 = .ok (.bipush 9, 2) := by decide +kernel
theorem dX9_hides_103 : decode cX9_hides 103 = .ok (.iadd, 1) := by decide +kernel
theorem dX9_hides_104 : decode cX9_hides 104 = .ok (.laload, 1) := by decide +kernel
theorem dX9_hides_105 : decode cX9_hides 105 = .ok (.lconst 1, 1) := by decide +kernel
theorem dX9_hides_106 : decode cX9_hides 106 = .ok (.lcmp, 1) := by decide +kernel
theorem dX9_hides_107 : decode cX9_hides 107 = .ok (.ifCond .ne 55, 3) := by decide +kernel
theorem dX9_hides_110 : decode cX9_hides 110 = .ok (.aload_n 0, 1) := by decide +kernel
theorem dX9_hides_111 : decode cX9_hides 111 = .ok (.iload_n 3, 1) := by decide +kernel
theorem dX9_hides_112 : decode cX9_hides 112 = .ok (.sipush 8600, 3) := by decide +kernel
theorem dX9_hides_115 : decode cX9_hides 115 = .ok (.invokevirtual 321, 3) := by decide +kernel
theorem dX9_hides_118 : decode cX9_hides 118 = .ok (.ifCond .eq 44, 3) := by decide +kernel
theorem dX9_hides_121 : decode cX9_hides 121 = .ok (.iload 4, 2) := by decide +kernel
theorem dX9_hides_123 : decode cX9_hides 123 = .ok (.ifCond .eq 39, 3) := by decide +kernel
theorem dX9_hides_126 : decode cX9_hides 126 = .ok (.aload_n 0, 1) := by decide +kernel
theorem dX9_hides_127 : decode cX9_hides 127 = .ok (.sipush 8692, 3) := by decide +kernel
theorem dX9_hides_130 : decode cX9_hides 130 = .ok (.aload_n 0, 1) := by decide +kernel
theorem dX9_hides_131 : decode cX9_hides 131 = .ok (.getfield 7, 3) := by decide +kernel
theorem dX9_hides_134 : decode cX9_hides 134 = .ok (.sipush 8603, 3) := by decide +kernel
theorem dX9_hides_137 : decode cX9_hides 137 = .ok (.laload, 1) := by decide +kernel
theorem dX9_hides_138 : decode cX9_hides 138 = .ok (.l2i, 1) := by decide +kernel
theorem dX9_hides_139 : decode cX9_hides 139 = .ok (.iload_n 3, 1) := by decide +kernel
theorem dX9_hides_140 : decode cX9_hides 140 = .ok (.bipush 92, 2) := by decide +kernel
theorem dX9_hides_142 : decode cX9_hides 142 = .ok (.iadd, 1) := by decide +kernel
theorem dX9_hides_143 : decode cX9_hides 143 = .ok (.aload_n 0, 1) := by decide +kernel
theorem dX9_hides_144 : decode cX9_hides 144 = .ok (.getfield 7, 3) := by decide +kernel
theorem dX9_hides_147 : decode cX9_hides 147 = .ok (.iload_n 3, 1) := by decide +kernel
theorem dX9_hides_148 : decode cX9_hides 148 = .ok (.iconst 3, 1) := by decide +kernel
theorem dX9_hides_149 : decode cX9_hides 149 = .ok (.iadd, 1) := by decide +kernel
theorem dX9_hides_150 : decode cX9_hides 150 = .ok (.laload, 1) := by decide +kernel
theorem dX9_hides_151 : decode cX9_hides 151 = .ok (.l2i, 1) := by decide +kernel
theorem dX9_hides_152 : decode cX9_hides 152 = .ok (.invokevirtual 330, 3) := by decide +kernel
theorem dX9_hides_155 : decode cX9_hides 155 = .ok (.ifCond .eq 7, 3) := by decide +kernel
theorem dX9_hides_158 : decode cX9_hides 158 = .ok (.iconst 1, 1) := by decide +kernel
theorem dX9_hides_159 : decode cX9_hides 159 = .ok (.goto 4, 3) := by decide +kernel
theorem dX9_hides_162 : decode cX9_hides 162 = .ok (.iconst 0, 1) := by decide +kernel
theorem dX9_hides_163 : decode cX9_hides 163 = .ok (.istore_n 1, 1) := by decide +kernel
theorem dX9_hides_164 : decode cX9_hides 164 = .ok (.iinc 2 1, 3) := by decide +kernel
theorem dX9_hides_167 : decode cX9_hides 167 = .ok (.goto (-163), 3) := by decide +kernel
theorem dX9_hides_170 : decode cX9_hides 170 = .ok (.iload_n 1, 1) := by decide +kernel
theorem dX9_hides_171 : decode cX9_hides 171 = .ok (.ireturn, 1) := by decide +kernel
theorem dX9_cause_0 : decode cX9_cause 0 = .ok (.aload_n 0, 1) := by decide +kernel
theorem dX9_cause_1 : decode cX9_cause 1 = .ok (.getfield 298, 3) := by decide +kernel
theorem dX9_cause_4 : decode cX9_cause 4 = .ok (.ifCond .ne 6, 3) := by decide +kernel
theorem dX9_cause_7 : decode cX9_cause 7 = .ok (.bipush 11, 2) := by decide +kernel
theorem dX9_cause_9 : decode cX9_cause 9 = .ok (.ireturn, 1) := by decide +kernel
theorem dX9_cause_10 : decode cX9_cause 10 = .ok (.aload_n 0, 1) := by decide +kernel
theorem dX9_cause_11 : decode cX9_cause 11 = .ok (.getfield 304, 3) := by decide +kernel
theorem dX9_cause_14 : decode cX9_cause 14 = .ok (.ifCond .ne 6, 3) := by decide +kernel
theorem dX9_cause_17 : decode cX9_cause 17 = .ok (.bipush 12, 2) := by decide +kernel
theorem dX9_cause_19 : decode cX9_cause 19 = .ok (.ireturn, 1) := by decide +kernel
theorem dX9_cause_20 : decode cX9_cause 20 = .ok (.aload_n 0, 1) := by decide +kernel
theorem dX9_cause_21 : decode cX9_cause 21 = .ok (.getfield 304, 3) := by decide +kernel
theorem dX9_cause_24 : decode cX9_cause 24 = .ok (.bipush 16, 2) := by decide +kernel
theorem dX9_cause_26 : decode cX9_cause 26 = .ok (.if_icmp .gt 12, 3) := by decide +kernel
theorem dX9_cause_29 : decode cX9_cause 29 = .ok (.aload_n 0, 1) := by decide +kernel
theorem dX9_cause_30 : decode cX9_cause 30 = .ok (.getfield 310, 3) := by decide +kernel
theorem dX9_cause_33 : decode cX9_cause 33 = .ok (.bipush 32, 2) := by decide +kernel
theorem dX9_cause_35 : decode cX9_cause 35 = .ok (.if_icmp .le 6, 3) := by decide +kernel
theorem dX9_cause_38 : decode cX9_cause 38 = .ok (.bipush 13, 2) := by decide +kernel
theorem dX9_cause_40 : decode cX9_cause 40 = .ok (.ireturn, 1) := by decide +kernel
theorem dX9_cause_41 : decode cX9_cause 41 = .ok (.aload_n 0, 1) := by decide +kernel
theorem dX9_cause_42 : decode cX9_cause 42 = .ok (.getfield 253, 3) := by decide +kernel
theorem dX9_cause_45 : decode cX9_cause 45 = .ok (.ifCond .eq 27, 3) := by decide +kernel
theorem dX9_cause_48 : decode cX9_cause 48 = .ok (.aload_n 0, 1) := by decide +kernel
theorem dX9_cause_49 : decode cX9_cause 49 = .ok (.sipush 8800, 3) := by decide +kernel
theorem dX9_cause_52 : decode cX9_cause 52 = .ok (.aload_n 0, 1) := by decide +kernel
theorem dX9_cause_53 : decode cX9_cause 53 = .ok (.getfield 256, 3) := by decide +kernel
theorem dX9_cause_56 : decode cX9_cause 56 = .ok (.bipush 104, 2) := by decide +kernel
theorem dX9_cause_58 : decode cX9_cause 58 = .ok (.aload_n 0, 1) := by decide +kernel
theorem dX9_cause_59 : decode cX9_cause 59 = .ok (.invokevirtual 169, 3) := by decide +kernel
theorem dX9_cause_62 : decode cX9_cause 62 = .ok (.invokevirtual 108, 3) := by decide +kernel
theorem dX9_cause_65 : decode cX9_cause 65 = .ok (.ifCond .eq 7, 3) := by decide +kernel
theorem dX9_cause_68 : decode cX9_cause 68 = .ok (.iconst 1, 1) := by decide +kernel
theorem dX9_cause_69 : decode cX9_cause 69 = .ok (.goto 4, 3) := by decide +kernel
theorem dX9_cause_72 : decode cX9_cause 72 = .ok (.iconst 0, 1) := by decide +kernel
theorem dX9_cause_73 : decode cX9_cause 73 = .ok (.istore_n 2, 1) := by decide +kernel
theorem dX9_cause_74 : decode cX9_cause 74 = .ok (.aload_n 0, 1) := by decide +kernel
theorem dX9_cause_75 : decode cX9_cause 75 = .ok (.getfield 253, 3) := by decide +kernel
theorem dX9_cause_78 : decode cX9_cause 78 = .ok (.ifCond .eq 24, 3) := by decide +kernel
theorem dX9_cause_81 : decode cX9_cause 81 = .ok (.aload_n 0, 1) := by decide +kernel
theorem dX9_cause_82 : decode cX9_cause 82 = .ok (.sipush 8800, 3) := by decide +kernel
theorem dX9_cause_85 : decode cX9_cause 85 = .ok (.aload_n 0, 1) := by decide +kernel
theorem dX9_cause_86 : decode cX9_cause 86 = .ok (.getfield 256, 3) := by decide +kernel
theorem dX9_cause_89 : decode cX9_cause 89 = .ok (.invokevirtual 316, 3) := by decide +kernel
theorem dX9_cause_92 : decode cX9_cause 92 = .ok (.ifCond .eq 10, 3) := by decide +kernel
theorem dX9_cause_95 : decode cX9_cause 95 = .ok (.iload_n 2, 1) := by decide +kernel
theorem dX9_cause_96 : decode cX9_cause 96 = .ok (.ifCond .ne 6, 3) := by decide +kernel
theorem dX9_cause_99 : decode cX9_cause 99 = .ok (.bipush 21, 2) := by decide +kernel
theorem dX9_cause_101 : decode cX9_cause 101 = .ok (.ireturn, 1) := by decide +kernel
theorem dX9_cause_102 : decode cX9_cause 102 = .ok (.aload_n 0, 1) := by decide +kernel
theorem dX9_cause_103 : decode cX9_cause 103 = .ok (.getfield 253, 3) := by decide +kernel
theorem dX9_cause_106 : decode cX9_cause 106 = .ok (.ifCond .eq 26, 3) := by decide +kernel
theorem dX9_cause_109 : decode cX9_cause 109 = .ok (.aload_n 0, 1) := by decide +kernel
theorem dX9_cause_110 : decode cX9_cause 110 = .ok (.bipush 104, 2) := by decide +kernel
theorem dX9_cause_112 : decode cX9_cause 112 = .ok (.aload_n 0, 1) := by decide +kernel
theorem dX9_cause_113 : decode cX9_cause 113 = .ok (.invokevirtual 169, 3) := by decide +kernel
theorem dX9_cause_116 : decode cX9_cause 116 = .ok (.sipush 8800, 3) := by decide +kernel
theorem dX9_cause_119 : decode cX9_cause 119 = .ok (.aload_n 0, 1) := by decide +kernel
theorem dX9_cause_120 : decode cX9_cause 120 = .ok (.getfield 256, 3) := by decide +kernel
theorem dX9_cause_123 : decode cX9_cause 123 = .ok (.invokevirtual 112, 3) := by decide +kernel
theorem dX9_cause_126 : decode cX9_cause 126 = .ok (.ifCond .ne 6, 3) := by decide +kernel
theorem dX9_cause_129 : decode cX9_cause 129 = .ok (.bipush 22, 2) := by decide +kernel
theorem dX9_cause_131 : decode cX9_cause 131 = .ok (.ireturn, 1) := by decide +kernel
theorem dX9_cause_132 : decode cX9_cause 132 = .ok (.aload_n 0, 1) := by decide +kernel
theorem dX9_cause_133 : decode cX9_cause 133 = .ok (.getfield 7, 3) := by decide +kernel
theorem dX9_cause_136 : decode cX9_cause 136 = .ok (.sipush 8609, 3) := by decide +kernel
theorem dX9_cause_139 : decode cX9_cause 139 = .ok (.laload, 1) := by decide +kernel
theorem dX9_cause_140 : decode cX9_cause 140 = .ok (.lconst 1, 1) := by decide +kernel
theorem dX9_cause_141 : decode cX9_cause 141 = .ok (.lcmp, 1) := by decide +kernel
theorem dX9_cause_142 : decode cX9_cause 142 = .ok (.ifCond .ne 7, 3) := by decide +kernel
theorem dX9_cause_145 : decode cX9_cause 145 = .ok (.iconst 1, 1) := by decide +kernel
theorem dX9_cause_146 : decode cX9_cause 146 = .ok (.goto 4, 3) := by decide +kernel
theorem dX9_cause_149 : decode cX9_cause 149 = .ok (.iconst 0, 1) := by decide +kernel
theorem dX9_cause_150 : decode cX9_cause 150 = .ok (.istore_n 3, 1) := by decide +kernel
theorem dX9_cause_151 : decode cX9_cause 151 = .ok (.aload_n 0, 1) := by decide +kernel
theorem dX9_cause_152 : decode cX9_cause 152 = .ok (.getfield 7, 3) := by decide +kernel
theorem dX9_cause_155 : decode cX9_cause 155 = .ok (.bipush 101, 2) := by decide +kernel
theorem dX9_cause_157 : decode cX9_cause 157 = .ok (.laload, 1) := by decide +kernel
theorem dX9_cause_158 : decode cX9_cause 158 = .ok (.lconst 0, 1) := by decide +kernel
theorem dX9_cause_159 : decode cX9_cause 159 = .ok (.lcmp, 1) := by decide +kernel
theorem dX9_cause_160 : decode cX9_cause 160 = .ok (.ifCond .ne 7, 3) := by decide +kernel
theorem dX9_cause_163 : decode cX9_cause 163 = .ok (.iconst 1, 1) := by decide +kernel
theorem dX9_cause_164 : decode cX9_cause 164 = .ok (.goto 4, 3) := by decide +kernel
theorem dX9_cause_167 : decode cX9_cause 167 = .ok (.iconst 0, 1) := by decide +kernel
theorem dX9_cause_168 : decode cX9_cause 168 = .ok (.istore 4, 2) := by decide +kernel
theorem dX9_cause_170 : decode cX9_cause 170 = .ok (.iload_n 3, 1) := by decide +kernel
theorem dX9_cause_171 : decode cX9_cause 171 = .ok (.ifCond .eq 11, 3) := by decide +kernel
theorem dX9_cause_174 : decode cX9_cause 174 = .ok (.iload 4, 2) := by decide +kernel
theorem dX9_cause_176 : decode cX9_cause 176 = .ok (.ifCond .eq 6, 3) := by decide +kernel
theorem dX9_cause_179 : decode cX9_cause 179 = .ok (.bipush 31, 2) := by decide +kernel
theorem dX9_cause_181 : decode cX9_cause 181 = .ok (.ireturn, 1) := by decide +kernel
theorem dX9_cause_182 : decode cX9_cause 182 = .ok (.aload_n 0, 1) := by decide +kernel
theorem dX9_cause_183 : decode cX9_cause 183 = .ok (.getfield 7, 3) := by decide +kernel
theorem dX9_cause_186 : decode cX9_cause 186 = .ok (.sipush 8610, 3) := by decide +kernel
theorem dX9_cause_189 : decode cX9_cause 189 = .ok (.laload, 1) := by decide +kernel
theorem dX9_cause_190 : decode cX9_cause 190 = .ok (.lconst 1, 1) := by decide +kernel
theorem dX9_cause_191 : decode cX9_cause 191 = .ok (.lcmp, 1) := by decide +kernel
theorem dX9_cause_192 : decode cX9_cause 192 = .ok (.ifCond .ne 10, 3) := by decide +kernel
theorem dX9_cause_195 : decode cX9_cause 195 = .ok (.iload_n 1, 1) := by decide +kernel
theorem dX9_cause_196 : decode cX9_cause 196 = .ok (.ifCond .eq 6, 3) := by decide +kernel
theorem dX9_cause_199 : decode cX9_cause 199 = .ok (.bipush 61, 2) := by decide +kernel
theorem dX9_cause_201 : decode cX9_cause 201 = .ok (.ireturn, 1) := by decide +kernel
theorem dX9_cause_202 : decode cX9_cause 202 = .ok (.iload_n 3, 1) := by decide +kernel
theorem dX9_cause_203 : decode cX9_cause 203 = .ok (.ifCond .ne 18, 3) := by decide +kernel
theorem dX9_cause_206 : decode cX9_cause 206 = .ok (.iload 4, 2) := by decide +kernel
theorem dX9_cause_208 : decode cX9_cause 208 = .ok (.ifCond .eq 13, 3) := by decide +kernel
theorem dX9_cause_211 : decode cX9_cause 211 = .ok (.aload_n 0, 1) := by decide +kernel
theorem dX9_cause_212 : decode cX9_cause 212 = .ok (.invokevirtual 333, 3) := by decide +kernel
theorem dX9_cause_215 : decode cX9_cause 215 = .ok (.ifCond .eq 6, 3) := by decide +kernel
theorem dX9_cause_218 : decode cX9_cause 218 = .ok (.bipush 32, 2) := by decide +kernel
theorem dX9_cause_220 : decode cX9_cause 220 = .ok (.ireturn, 1) := by decide +kernel
theorem dX9_cause_221 : decode cX9_cause 221 = .ok (.aload_n 0, 1) := by decide +kernel
theorem dX9_cause_222 : decode cX9_cause 222 = .ok (.getfield 7, 3) := by decide +kernel
theorem dX9_cause_225 : decode cX9_cause 225 = .ok (.sipush 8611, 3) := by decide +kernel
theorem dX9_cause_228 : decode cX9_cause 228 = .ok (.laload, 1) := by decide +kernel
theorem dX9_cause_229 : decode cX9_cause 229 = .ok (.lconst 0, 1) := by decide +kernel
theorem dX9_cause_230 : decode cX9_cause 230 = .ok (.lcmp, 1) := by decide +kernel
theorem dX9_cause_231 : decode cX9_cause 231 = .ok (.ifCond .ne 10, 3) := by decide +kernel
theorem dX9_cause_234 : decode cX9_cause 234 = .ok (.iload_n 3, 1) := by decide +kernel
theorem dX9_cause_235 : decode cX9_cause 235 = .ok (.ifCond .ne 6, 3) := by decide +kernel
theorem dX9_cause_238 : decode cX9_cause 238 = .ok (.bipush 51, 2) := by decide +kernel
theorem dX9_cause_240 : decode cX9_cause 240 = .ok (.ireturn, 1) := by decide +kernel
theorem dX9_cause_241 : decode cX9_cause 241 = .ok (.aload_n 0, 1) := by decide +kernel
theorem dX9_cause_242 : decode cX9_cause 242 = .ok (.sipush 8614, 3) := by decide +kernel
theorem dX9_cause_245 : decode cX9_cause 245 = .ok (.aload_n 0, 1) := by decide +kernel
theorem dX9_cause_246 : decode cX9_cause 246 = .ok (.getfield 304, 3) := by decide +kernel
theorem dX9_cause_249 : decode cX9_cause 249 = .ok (.aload_n 0, 1) := by decide +kernel
theorem dX9_cause_250 : decode cX9_cause 250 = .ok (.getfield 69, 3) := by decide +kernel
theorem dX9_cause_253 : decode cX9_cause 253 = .ok (.invokevirtual 336, 3) := by decide +kernel
theorem dX9_cause_256 : decode cX9_cause 256 = .ok (.ifCond .eq 10, 3) := by decide +kernel
theorem dX9_cause_259 : decode cX9_cause 259 = .ok (.iload_n 3, 1) := by decide +kernel
theorem dX9_cause_260 : decode cX9_cause 260 = .ok (.ifCond .ne 6, 3) := by decide +kernel
theorem dX9_cause_263 : decode cX9_cause 263 = .ok (.bipush 41, 2) := by decide +kernel
theorem dX9_cause_265 : decode cX9_cause 265 = .ok (.ireturn, 1) := by decide +kernel
theorem dX9_cause_266 : decode cX9_cause 266 = .ok (.aload_n 0, 1) := by decide +kernel
theorem dX9_cause_267 : decode cX9_cause 267 = .ok (.getfield 7, 3) := by decide +kernel
theorem dX9_cause_270 : decode cX9_cause 270 = .ok (.sipush 8603, 3) := by decide +kernel
theorem dX9_cause_273 : decode cX9_cause 273 = .ok (.laload, 1) := by decide +kernel
theorem dX9_cause_274 : decode cX9_cause 274 = .ok (.lconst 1, 1) := by decide +kernel
theorem dX9_cause_275 : decode cX9_cause 275 = .ok (.lcmp, 1) := by decide +kernel
theorem dX9_cause_276 : decode cX9_cause 276 = .ok (.ifCond .ne 7, 3) := by decide +kernel
theorem dX9_cause_279 : decode cX9_cause 279 = .ok (.iconst 1, 1) := by decide +kernel
theorem dX9_cause_280 : decode cX9_cause 280 = .ok (.goto 4, 3) := by decide +kernel
theorem dX9_cause_283 : decode cX9_cause 283 = .ok (.iconst 0, 1) := by decide +kernel
theorem dX9_cause_284 : decode cX9_cause 284 = .ok (.istore 5, 2) := by decide +kernel
theorem dX9_cause_286 : decode cX9_cause 286 = .ok (.aload_n 0, 1) := by decide +kernel
theorem dX9_cause_287 : decode cX9_cause 287 = .ok (.sipush 8614, 3) := by decide +kernel
theorem dX9_cause_290 : decode cX9_cause 290 = .ok (.aload_n 0, 1) := by decide +kernel
theorem dX9_cause_291 : decode cX9_cause 291 = .ok (.getfield 304, 3) := by decide +kernel
theorem dX9_cause_294 : decode cX9_cause 294 = .ok (.aload_n 0, 1) := by decide +kernel
theorem dX9_cause_295 : decode cX9_cause 295 = .ok (.getfield 72, 3) := by decide +kernel
theorem dX9_cause_298 : decode cX9_cause 298 = .ok (.invokevirtual 336, 3) := by decide +kernel
theorem dX9_cause_301 : decode cX9_cause 301 = .ok (.ifCond .eq 28, 3) := by decide +kernel
theorem dX9_cause_304 : decode cX9_cause 304 = .ok (.iload_n 3, 1) := by decide +kernel
theorem dX9_cause_305 : decode cX9_cause 305 = .ok (.ifCond .eq 21, 3) := by decide +kernel
theorem dX9_cause_308 : decode cX9_cause 308 = .ok (.aload_n 0, 1) := by decide +kernel
theorem dX9_cause_309 : decode cX9_cause 309 = .ok (.getfield 7, 3) := by decide +kernel
theorem dX9_cause_312 : decode cX9_cause 312 = .ok (.sipush 8608, 3) := by decide +kernel
theorem dX9_cause_315 : decode cX9_cause 315 = .ok (.laload, 1) := by decide +kernel
theorem dX9_cause_316 : decode cX9_cause 316 = .ok (.lconst 1, 1) := by decide +kernel
theorem dX9_cause_317 : decode cX9_cause 317 = .ok (.lcmp, 1) := by decide +kernel
theorem dX9_cause_318 : decode cX9_cause 318 = .ok (.ifCond .ne 8, 3) := by decide +kernel
theorem dX9_cause_321 : decode cX9_cause 321 = .ok (.iload 5, 2) := by decide +kernel
theorem dX9_cause_323 : decode cX9_cause 323 = .ok (.ifCond .ne 6, 3) := by decide +kernel
theorem dX9_cause_326 : decode cX9_cause 326 = .ok (.bipush 42, 2) := by decide +kernel
theorem dX9_cause_328 : decode cX9_cause 328 = .ok (.ireturn, 1) := by decide +kernel
theorem dX9_cause_329 : decode cX9_cause 329 = .ok (.aload_n 0, 1) := by decide +kernel
theorem dX9_cause_330 : decode cX9_cause 330 = .ok (.invokevirtual 339, 3) := by decide +kernel
theorem dX9_cause_333 : decode cX9_cause 333 = .ok (.istore 6, 2) := by decide +kernel
theorem dX9_cause_335 : decode cX9_cause 335 = .ok (.iload_n 1, 1) := by decide +kernel
theorem dX9_cause_336 : decode cX9_cause 336 = .ok (.ifCond .eq 31, 3) := by decide +kernel
theorem dX9_cause_339 : decode cX9_cause 339 = .ok (.iload 6, 2) := by decide +kernel
theorem dX9_cause_341 : decode cX9_cause 341 = .ok (.ifCond .lt 26, 3) := by decide +kernel
theorem dX9_cause_344 : decode cX9_cause 344 = .ok (.aload_n 0, 1) := by decide +kernel
theorem dX9_cause_345 : decode cX9_cause 345 = .ok (.getfield 7, 3) := by decide +kernel
theorem dX9_cause_348 : decode cX9_cause 348 = .ok (.iload 6, 2) := by decide +kernel
theorem dX9_cause_350 : decode cX9_cause 350 = .ok (.invokestatic 324, 3) := by decide +kernel
theorem dX9_cause_353 : decode cX9_cause 353 = .ok (.bipush 10, 2) := by decide +kernel
theorem dX9_cause_355 : decode cX9_cause 355 = .ok (.iadd, 1) := by decide +kernel
theorem dX9_cause_356 : decode cX9_cause 356 = .ok (.laload, 1) := by decide +kernel
theorem dX9_cause_357 : decode cX9_cause 357 = .ok (.lconst 1, 1) := by decide +kernel
theorem dX9_cause_358 : decode cX9_cause 358 = .ok (.lcmp, 1) := by decide +kernel
theorem dX9_cause_359 : decode cX9_cause 359 = .ok (.ifCond .ne 8, 3) := by decide +kernel
theorem dX9_cause_362 : decode cX9_cause 362 = .ok (.bipush 62, 2) := by decide +kernel
theorem dX9_cause_364 : decode cX9_cause 364 = .ok (.goto 4, 3) := by decide +kernel
theorem dX9_cause_367 : decode cX9_cause 367 = .ok (.iconst 0, 1) := by decide +kernel
theorem dX9_cause_368 : decode cX9_cause 368 = .ok (.ireturn, 1) := by decide +kernel
theorem dX9_goes_0 : decode cX9_goes 0 = .ok (.aload_n 0, 1) := by decide +kernel
theorem dX9_goes_1 : decode cX9_goes 1 = .ok (.getfield 7, 3) := by decide +kernel
theorem dX9_goes_4 : decode cX9_goes 4 = .ok (.iconst 5, 1) := by decide +kernel
theorem dX9_goes_5 : decode cX9_goes 5 = .ok (.dup2, 1) := by decide +kernel
theorem dX9_goes_6 : decode cX9_goes 6 = .ok (.laload, 1) := by decide +kernel
theorem dX9_goes_7 : decode cX9_goes 7 = .ok (.lconst 1, 1) := by decide +kernel
theorem dX9_goes_8 : decode cX9_goes 8 = .ok (.lsub, 1) := by decide +kernel
theorem dX9_goes_9 : decode cX9_goes 9 = .ok (.lastore, 1) := by decide +kernel
theorem dX9_goes_10 : decode cX9_goes 10 = .ok (.aload_n 0, 1) := by decide +kernel
theorem dX9_goes_11 : decode cX9_goes 11 = .ok (.aload_n 0, 1) := by decide +kernel
theorem dX9_goes_12 : decode cX9_goes 12 = .ok (.getfield 7, 3) := by decide +kernel
theorem dX9_goes_15 : decode cX9_goes 15 = .ok (.iconst 5, 1) := by decide +kernel
theorem dX9_goes_16 : decode cX9_goes 16 = .ok (.laload, 1) := by decide +kernel
theorem dX9_goes_17 : decode cX9_goes 17 = .ok (.l2i, 1) := by decide +kernel
theorem dX9_goes_18 : decode cX9_goes 18 = .ok (.invokestatic 324, 3) := by decide +kernel
theorem dX9_goes_21 : decode cX9_goes 21 = .ok (.sipush 140, 3) := by decide +kernel
theorem dX9_goes_24 : decode cX9_goes 24 = .ok (.iload_n 1, 1) := by decide +kernel
theorem dX9_goes_25 : decode cX9_goes 25 = .ok (.invokestatic 324, 3) := by decide +kernel
theorem dX9_goes_28 : decode cX9_goes 28 = .ok (.invokevirtual 148, 3) := by decide +kernel
theorem dX9_goes_31 : decode cX9_goes 31 = .ok (.return_, 1) := by decide +kernel
theorem dX9_happens_0 : decode cX9_happens 0 = .ok (.aload_n 0, 1) := by decide +kernel
theorem dX9_happens_1 : decode cX9_happens 1 = .ok (.getfield 7, 3) := by decide +kernel
theorem dX9_happens_4 : decode cX9_happens 4 = .ok (.bipush 10, 2) := by decide +kernel
theorem dX9_happens_6 : decode cX9_happens 6 = .ok (.iload_n 1, 1) := by decide +kernel
theorem dX9_happens_7 : decode cX9_happens 7 = .ok (.iadd, 1) := by decide +kernel
theorem dX9_happens_8 : decode cX9_happens 8 = .ok (.dup2, 1) := by decide +kernel
theorem dX9_happens_9 : decode cX9_happens 9 = .ok (.laload, 1) := by decide +kernel
theorem dX9_happens_10 : decode cX9_happens 10 = .ok (.lconst 1, 1) := by decide +kernel
theorem dX9_happens_11 : decode cX9_happens 11 = .ok (.ladd, 1) := by decide +kernel
theorem dX9_happens_12 : decode cX9_happens 12 = .ok (.lastore, 1) := by decide +kernel
theorem dX9_happens_13 : decode cX9_happens 13 = .ok (.iload_n 2, 1) := by decide +kernel
theorem dX9_happens_14 : decode cX9_happens 14 = .ok (.ireturn, 1) := by decide +kernel
theorem dX9_receive_0 : decode cX9_receive 0 = .ok (.aload_n 0, 1) := by decide +kernel
theorem dX9_receive_1 : decode cX9_receive 1 = .ok (.iconst 0, 1) := by decide +kernel
theorem dX9_receive_2 : decode cX9_receive 2 = .ok (.putfield 82, 3) := by decide +kernel
theorem dX9_receive_5 : decode cX9_receive 5 = .ok (.aload_n 0, 1) := by decide +kernel
theorem dX9_receive_6 : decode cX9_receive 6 = .ok (.getfield 7, 3) := by decide +kernel
theorem dX9_receive_9 : decode cX9_receive 9 = .ok (.bipush 100, 2) := by decide +kernel
theorem dX9_receive_11 : decode cX9_receive 11 = .ok (.laload, 1) := by decide +kernel
theorem dX9_receive_12 : decode cX9_receive 12 = .ok (.lconst 0, 1) := by decide +kernel
theorem dX9_receive_13 : decode cX9_receive 13 = .ok (.lcmp, 1) := by decide +kernel
theorem dX9_receive_14 : decode cX9_receive 14 = .ok (.ifCond .ne 9, 3) := by decide +kernel
theorem dX9_receive_17 : decode cX9_receive 17 = .ok (.aload_n 0, 1) := by decide +kernel
theorem dX9_receive_18 : decode cX9_receive 18 = .ok (.iconst 1, 1) := by decide +kernel
theorem dX9_receive_19 : decode cX9_receive 19 = .ok (.invokevirtual 166, 3) := by decide +kernel
theorem dX9_receive_22 : decode cX9_receive 22 = .ok (.ireturn, 1) := by decide +kernel
theorem dX9_receive_23 : decode cX9_receive 23 = .ok (.aload_n 0, 1) := by decide +kernel
theorem dX9_receive_24 : decode cX9_receive 24 = .ok (.invokevirtual 342, 3) := by decide +kernel
theorem dX9_receive_27 : decode cX9_receive 27 = .ok (.aload_n 0, 1) := by decide +kernel
theorem dX9_receive_28 : decode cX9_receive 28 = .ok (.invokevirtual 345, 3) := by decide +kernel
theorem dX9_receive_31 : decode cX9_receive 31 = .ok (.aload_n 0, 1) := by decide +kernel
theorem dX9_receive_32 : decode cX9_receive 32 = .ok (.iload_n 1, 1) := by decide +kernel
theorem dX9_receive_33 : decode cX9_receive 33 = .ok (.invokevirtual 348, 3) := by decide +kernel
theorem dX9_receive_36 : decode cX9_receive 36 = .ok (.istore_n 2, 1) := by decide +kernel
theorem dX9_receive_37 : decode cX9_receive 37 = .ok (.aload_n 0, 1) := by decide +kernel
theorem dX9_receive_38 : decode cX9_receive 38 = .ok (.getfield 7, 3) := by decide +kernel
theorem dX9_receive_41 : decode cX9_receive 41 = .ok (.bipush 7, 2) := by decide +kernel
theorem dX9_receive_43 : decode cX9_receive 43 = .ok (.iload_n 2, 1) := by decide +kernel
theorem dX9_receive_44 : decode cX9_receive 44 = .ok (.i2l, 1) := by decide +kernel
theorem dX9_receive_45 : decode cX9_receive 45 = .ok (.lastore, 1) := by decide +kernel
theorem dX9_receive_46 : decode cX9_receive 46 = .ok (.aload_n 0, 1) := by decide +kernel
theorem dX9_receive_47 : decode cX9_receive 47 = .ok (.iconst 0, 1) := by decide +kernel
theorem dX9_receive_48 : decode cX9_receive 48 = .ok (.putfield 133, 3) := by decide +kernel
theorem dX9_receive_51 : decode cX9_receive 51 = .ok (.iload_n 2, 1) := by decide +kernel
theorem dX9_receive_52 : decode cX9_receive 52 = .ok (.ifCond .eq 10, 3) := by decide +kernel
theorem dX9_receive_55 : decode cX9_receive 55 = .ok (.aload_n 0, 1) := by decide +kernel
theorem dX9_receive_56 : decode cX9_receive 56 = .ok (.iconst 5, 1) := by decide +kernel
theorem dX9_receive_57 : decode cX9_receive 57 = .ok (.iconst 0, 1) := by decide +kernel
theorem dX9_receive_58 : decode cX9_receive 58 = .ok (.invokevirtual 352, 3) := by decide +kernel
theorem dX9_receive_61 : decode cX9_receive 61 = .ok (.ireturn, 1) := by decide +kernel
theorem dX9_receive_62 : decode cX9_receive 62 = .ok (.aload_n 0, 1) := by decide +kernel
theorem dX9_receive_63 : decode cX9_receive 63 = .ok (.invokevirtual 355, 3) := by decide +kernel
theorem dX9_receive_66 : decode cX9_receive 66 = .ok (.istore_n 3, 1) := by decide +kernel
theorem dX9_receive_67 : decode cX9_receive 67 = .ok (.aload_n 0, 1) := by decide +kernel
theorem dX9_receive_68 : decode cX9_receive 68 = .ok (.invokevirtual 339, 3) := by decide +kernel
theorem dX9_receive_71 : decode cX9_receive 71 = .ok (.istore 4, 2) := by decide +kernel
theorem dX9_receive_73 : decode cX9_receive 73 = .ok (.iload_n 3, 1) := by decide +kernel
theorem dX9_receive_74 : decode cX9_receive 74 = .ok (.ifCond .eq 29, 3) := by decide +kernel
theorem dX9_receive_77 : decode cX9_receive 77 = .ok (.iload 4, 2) := by decide +kernel
theorem dX9_receive_79 : decode cX9_receive 79 = .ok (.ifCond .ge 11, 3) := by decide +kernel
theorem dX9_receive_82 : decode cX9_receive 82 = .ok (.aload_n 0, 1) := by decide +kernel
theorem dX9_receive_83 : decode cX9_receive 83 = .ok (.bipush 6, 2) := by decide +kernel
theorem dX9_receive_85 : decode cX9_receive 85 = .ok (.iconst 0, 1) := by decide +kernel
theorem dX9_receive_86 : decode cX9_receive 86 = .ok (.invokevirtual 352, 3) := by decide +kernel
theorem dX9_receive_89 : decode cX9_receive 89 = .ok (.ireturn, 1) := by decide +kernel
theorem dX9_receive_90 : decode cX9_receive 90 = .ok (.aload_n 0, 1) := by decide +kernel
theorem dX9_receive_91 : decode cX9_receive 91 = .ok (.iload 4, 2) := by decide +kernel
theorem dX9_receive_93 : decode cX9_receive 93 = .ok (.invokevirtual 358, 3) := by decide +kernel
theorem dX9_receive_96 : decode cX9_receive 96 = .ok (.aload_n 0, 1) := by decide +kernel
theorem dX9_receive_97 : decode cX9_receive 97 = .ok (.iconst 2, 1) := by decide +kernel
theorem dX9_receive_98 : decode cX9_receive 98 = .ok (.iconst 3, 1) := by decide +kernel
theorem dX9_receive_99 : decode cX9_receive 99 = .ok (.invokevirtual 352, 3) := by decide +kernel
theorem dX9_receive_102 : decode cX9_receive 102 = .ok (.ireturn, 1) := by decide +kernel
theorem dX9_receive_103 : decode cX9_receive 103 = .ok (.aload_n 0, 1) := by decide +kernel
theorem dX9_receive_104 : decode cX9_receive 104 = .ok (.getfield 7, 3) := by decide +kernel
theorem dX9_receive_107 : decode cX9_receive 107 = .ok (.sipush 8606, 3) := by decide +kernel
theorem dX9_receive_110 : decode cX9_receive 110 = .ok (.aload_n 0, 1) := by decide +kernel
theorem dX9_receive_111 : decode cX9_receive 111 = .ok (.getfield 7, 3) := by decide +kernel
theorem dX9_receive_114 : decode cX9_receive 114 = .ok (.iconst 0, 1) := by decide +kernel
theorem dX9_receive_115 : decode cX9_receive 115 = .ok (.laload, 1) := by decide +kernel
theorem dX9_receive_116 : decode cX9_receive 116 = .ok (.lastore, 1) := by decide +kernel
theorem dX9_receive_117 : decode cX9_receive 117 = .ok (.aload_n 0, 1) := by decide +kernel
theorem dX9_receive_118 : decode cX9_receive 118 = .ok (.getfield 7, 3) := by decide +kernel
theorem dX9_receive_121 : decode cX9_receive 121 = .ok (.sipush 8605, 3) := by decide +kernel
theorem dX9_receive_124 : decode cX9_receive 124 = .ok (.iload 4, 2) := by decide +kernel
theorem dX9_receive_126 : decode cX9_receive 126 = .ok (.ifCond .ge 12, 3) := by decide +kernel
theorem dX9_receive_129 : decode cX9_receive 129 = .ok (.aload_n 0, 1) := by decide +kernel
theorem dX9_receive_130 : decode cX9_receive 130 = .ok (.getfield 7, 3) := by decide +kernel
theorem dX9_receive_133 : decode cX9_receive 133 = .ok (.iconst 0, 1) := by decide +kernel
theorem dX9_receive_134 : decode cX9_receive 134 = .ok (.laload, 1) := by decide +kernel
theorem dX9_receive_135 : decode cX9_receive 135 = .ok (.goto 15, 3) := by decide +kernel
theorem dX9_receive_138 : decode cX9_receive 138 = .ok (.aload_n 0, 1) := by decide +kernel
theorem dX9_receive_139 : decode cX9_receive 139 = .ok (.getfield 7, 3) := by decide +kernel
theorem dX9_receive_142 : decode cX9_receive 142 = .ok (.iload 4, 2) := by decide +kernel
theorem dX9_receive_144 : decode cX9_receive 144 = .ok (.invokestatic 324, 3) := by decide +kernel
theorem dX9_receive_147 : decode cX9_receive 147 = .ok (.iconst 5, 1) := by decide +kernel
theorem dX9_receive_148 : decode cX9_receive 148 = .ok (.iadd, 1) := by decide +kernel
theorem dX9_receive_149 : decode cX9_receive 149 = .ok (.laload, 1) := by decide +kernel
theorem dX9_receive_150 : decode cX9_receive 150 = .ok (.lastore, 1) := by decide +kernel
theorem dX9_receive_151 : decode cX9_receive 151 = .ok (.aload_n 0, 1) := by decide +kernel
theorem dX9_receive_152 : decode cX9_receive 152 = .ok (.getfield 7, 3) := by decide +kernel
theorem dX9_receive_155 : decode cX9_receive 155 = .ok (.sipush 8607, 3) := by decide +kernel
theorem dX9_receive_158 : decode cX9_receive 158 = .ok (.iload 4, 2) := by decide +kernel
theorem dX9_receive_160 : decode cX9_receive 160 = .ok (.ifCond .ge 12, 3) := by decide +kernel
theorem dX9_receive_163 : decode cX9_receive 163 = .ok (.aload_n 0, 1) := by decide +kernel
theorem dX9_receive_164 : decode cX9_receive 164 = .ok (.getfield 7, 3) := by decide +kernel
theorem dX9_receive_167 : decode cX9_receive 167 = .ok (.iconst 1, 1) := by decide +kernel
theorem dX9_receive_168 : decode cX9_receive 168 = .ok (.laload, 1) := by decide +kernel
theorem dX9_receive_169 : decode cX9_receive 169 = .ok (.goto 16, 3) := by decide +kernel
theorem dX9_receive_172 : decode cX9_receive 172 = .ok (.aload_n 0, 1) := by decide +kernel
theorem dX9_receive_173 : decode cX9_receive 173 = .ok (.getfield 7, 3) := by decide +kernel
theorem dX9_receive_176 : decode cX9_receive 176 = .ok (.iload 4, 2) := by decide +kernel
theorem dX9_receive_178 : decode cX9_receive 178 = .ok (.invokestatic 324, 3) := by decide +kernel
theorem dX9_receive_181 : decode cX9_receive 181 = .ok (.bipush 7, 2) := by decide +kernel
theorem dX9_receive_183 : decode cX9_receive 183 = .ok (.iadd, 1) := by decide +kernel
theorem dX9_receive_184 : decode cX9_receive 184 = .ok (.laload, 1) := by decide +kernel
theorem dX9_receive_185 : decode cX9_receive 185 = .ok (.lastore, 1) := by decide +kernel
theorem dX9_receive_186 : decode cX9_receive 186 = .ok (.aload_n 0, 1) := by decide +kernel
theorem dX9_receive_187 : decode cX9_receive 187 = .ok (.getfield 7, 3) := by decide +kernel
theorem dX9_receive_190 : decode cX9_receive 190 = .ok (.iconst 1, 1) := by decide +kernel
theorem dX9_receive_191 : decode cX9_receive 191 = .ok (.dup2, 1) := by decide +kernel
theorem dX9_receive_192 : decode cX9_receive 192 = .ok (.laload, 1) := by decide +kernel
theorem dX9_receive_193 : decode cX9_receive 193 = .ok (.iload 4, 2) := by decide +kernel
theorem dX9_receive_195 : decode cX9_receive 195 = .ok (.ifCond .ge 7, 3) := by decide +kernel
theorem dX9_receive_198 : decode cX9_receive 198 = .ok (.lconst 1, 1) := by decide +kernel
theorem dX9_receive_199 : decode cX9_receive 199 = .ok (.goto 4, 3) := by decide +kernel
theorem dX9_receive_202 : decode cX9_receive 202 = .ok (.lconst 0, 1) := by decide +kernel
theorem dX9_receive_203 : decode cX9_receive 203 = .ok (.ladd, 1) := by decide +kernel
theorem dX9_receive_204 : decode cX9_receive 204 = .ok (.lastore, 1) := by decide +kernel
theorem dX9_receive_205 : decode cX9_receive 205 = .ok (.aload_n 0, 1) := by decide +kernel
theorem dX9_receive_206 : decode cX9_receive 206 = .ok (.sipush 8600, 3) := by decide +kernel
theorem dX9_receive_209 : decode cX9_receive 209 = .ok (.sipush 140, 3) := by decide +kernel
theorem dX9_receive_212 : decode cX9_receive 212 = .ok (.iload 4, 2) := by decide +kernel
theorem dX9_receive_214 : decode cX9_receive 214 = .ok (.ifCond .ge 13, 3) := by decide +kernel
theorem dX9_receive_217 : decode cX9_receive 217 = .ok (.aload_n 0, 1) := by decide +kernel
theorem dX9_receive_218 : decode cX9_receive 218 = .ok (.getfield 7, 3) := by decide +kernel
theorem dX9_receive_221 : decode cX9_receive 221 = .ok (.iconst 5, 1) := by decide +kernel
theorem dX9_receive_222 : decode cX9_receive 222 = .ok (.laload, 1) := by decide +kernel
theorem dX9_receive_223 : decode cX9_receive 223 = .ok (.l2i, 1) := by decide +kernel
theorem dX9_receive_224 : decode cX9_receive 224 = .ok (.goto 5, 3) := by decide +kernel
theorem dX9_receive_227 : decode cX9_receive 227 = .ok (.iload 4, 2) := by decide +kernel
theorem dX9_receive_229 : decode cX9_receive 229 = .ok (.invokestatic 324, 3) := by decide +kernel
theorem dX9_receive_232 : decode cX9_receive 232 = .ok (.invokevirtual 148, 3) := by decide +kernel
theorem dX9_receive_235 : decode cX9_receive 235 = .ok (.aload_n 0, 1) := by decide +kernel
theorem dX9_receive_236 : decode cX9_receive 236 = .ok (.getfield 7, 3) := by decide +kernel
theorem dX9_receive_239 : decode cX9_receive 239 = .ok (.iconst 5, 1) := by decide +kernel
theorem dX9_receive_240 : decode cX9_receive 240 = .ok (.dup2, 1) := by decide +kernel
theorem dX9_receive_241 : decode cX9_receive 241 = .ok (.laload, 1) := by decide +kernel
theorem dX9_receive_242 : decode cX9_receive 242 = .ok (.iload 4, 2) := by decide +kernel
theorem dX9_receive_244 : decode cX9_receive 244 = .ok (.ifCond .ge 7, 3) := by decide +kernel
theorem dX9_receive_247 : decode cX9_receive 247 = .ok (.lconst 1, 1) := by decide +kernel
theorem dX9_receive_248 : decode cX9_receive 248 = .ok (.goto 4, 3) := by decide +kernel
theorem dX9_receive_251 : decode cX9_receive 251 = .ok (.lconst 0, 1) := by decide +kernel
theorem dX9_receive_252 : decode cX9_receive 252 = .ok (.ladd, 1) := by decide +kernel
theorem dX9_receive_253 : decode cX9_receive 253 = .ok (.lastore, 1) := by decide +kernel
theorem dX9_receive_254 : decode cX9_receive 254 = .ok (.aload_n 0, 1) := by decide +kernel
theorem dX9_receive_255 : decode cX9_receive 255 = .ok (.aload_n 0, 1) := by decide +kernel
theorem dX9_receive_256 : decode cX9_receive 256 = .ok (.getfield 7, 3) := by decide +kernel
theorem dX9_receive_259 : decode cX9_receive 259 = .ok (.sipush 8607, 3) := by decide +kernel
theorem dX9_receive_262 : decode cX9_receive 262 = .ok (.laload, 1) := by decide +kernel
theorem dX9_receive_263 : decode cX9_receive 263 = .ok (.invokevirtual 362, 3) := by decide +kernel
theorem dX9_receive_266 : decode cX9_receive 266 = .ok (.iload 4, 2) := by decide +kernel
theorem dX9_receive_268 : decode cX9_receive 268 = .ok (.ifCond .ge 12, 3) := by decide +kernel
theorem dX9_receive_271 : decode cX9_receive 271 = .ok (.aload_n 0, 1) := by decide +kernel
theorem dX9_receive_272 : decode cX9_receive 272 = .ok (.iconst 0, 1) := by decide +kernel
theorem dX9_receive_273 : decode cX9_receive 273 = .ok (.iconst 1, 1) := by decide +kernel
theorem dX9_receive_274 : decode cX9_receive 274 = .ok (.invokevirtual 352, 3) := by decide +kernel
theorem dX9_receive_277 : decode cX9_receive 277 = .ok (.goto 9, 3) := by decide +kernel
theorem dX9_receive_280 : decode cX9_receive 280 = .ok (.aload_n 0, 1) := by decide +kernel
theorem dX9_receive_281 : decode cX9_receive 281 = .ok (.iconst 1, 1) := by decide +kernel
theorem dX9_receive_282 : decode cX9_receive 282 = .ok (.iconst 2, 1) := by decide +kernel
theorem dX9_receive_283 : decode cX9_receive 283 = .ok (.invokevirtual 352, 3) := by decide +kernel
theorem dX9_receive_286 : decode cX9_receive 286 = .ok (.ireturn, 1) := by decide +kernel
theorem dX9_rejection_0 : decode cX9_rejection 0 = .ok (.aload_n 0, 1) := by decide +kernel
theorem dX9_rejection_1 : decode cX9_rejection 1 = .ok (.iconst 0, 1) := by decide +kernel
theorem dX9_rejection_2 : decode cX9_rejection 2 = .ok (.putfield 82, 3) := by decide +kernel
theorem dX9_rejection_5 : decode cX9_rejection 5 = .ok (.iload_n 1, 1) := by decide +kernel
theorem dX9_rejection_6 : decode cX9_rejection 6 = .ok (.i2l, 1) := by decide +kernel
theorem dX9_rejection_7 : decode cX9_rejection 7 = .ok (.lconst 0, 1) := by decide +kernel
theorem dX9_rejection_8 : decode cX9_rejection 8 = .ok (.lconst 1, 1) := by decide +kernel
theorem dX9_rejection_9 : decode cX9_rejection 9 = .ok (.invokestatic 90, 3) := by decide +kernel
theorem dX9_rejection_12 : decode cX9_rejection 12 = .ok (.ifCond .ne 9, 3) := by decide +kernel
theorem dX9_rejection_15 : decode cX9_rejection 15 = .ok (.aload_n 0, 1) := by decide +kernel
theorem dX9_rejection_16 : decode cX9_rejection 16 = .ok (.iconst 1, 1) := by decide +kernel
theorem dX9_rejection_17 : decode cX9_rejection 17 = .ok (.invokevirtual 166, 3) := by decide +kernel
theorem dX9_rejection_20 : decode cX9_rejection 20 = .ok (.ireturn, 1) := by decide +kernel
theorem dX9_rejection_21 : decode cX9_rejection 21 = .ok (.iload_n 1, 1) := by decide +kernel
theorem dX9_rejection_22 : decode cX9_rejection 22 = .ok (.ifCond .ne 17, 3) := by decide +kernel
theorem dX9_rejection_25 : decode cX9_rejection 25 = .ok (.aload_n 0, 1) := by decide +kernel
theorem dX9_rejection_26 : decode cX9_rejection 26 = .ok (.getfield 7, 3) := by decide +kernel
theorem dX9_rejection_29 : decode cX9_rejection 29 = .ok (.bipush 7, 2) := by decide +kernel
theorem dX9_rejection_31 : decode cX9_rejection 31 = .ok (.laload, 1) := by decide +kernel
theorem dX9_rejection_32 : decode cX9_rejection 32 = .ok (.ldc2_w 187, 3) := by decide +kernel
theorem dX9_rejection_35 : decode cX9_rejection 35 = .ok (.ldiv, 1) := by decide +kernel
theorem dX9_rejection_36 : decode cX9_rejection 36 = .ok (.goto 10, 3) := by decide +kernel
theorem dX9_rejection_39 : decode cX9_rejection 39 = .ok (.aload_n 0, 1) := by decide +kernel
theorem dX9_rejection_40 : decode cX9_rejection 40 = .ok (.getfield 7, 3) := by decide +kernel
theorem dX9_rejection_43 : decode cX9_rejection 43 = .ok (.bipush 7, 2) := by decide +kernel
theorem dX9_rejection_45 : decode cX9_rejection 45 = .ok (.laload, 1) := by decide +kernel
theorem dX9_rejection_46 : decode cX9_rejection 46 = .ok (.l2i, 1) := by decide +kernel
theorem dX9_rejection_47 : decode cX9_rejection 47 = .ok (.ireturn, 1) := by decide +kernel
theorem dX9_sizeOf_0 : decode cX9_sizeOf 0 = .ok (.aload_n 0, 1) := by decide +kernel
theorem dX9_sizeOf_1 : decode cX9_sizeOf 1 = .ok (.getfield 7, 3) := by decide +kernel
theorem dX9_sizeOf_4 : decode cX9_sizeOf 4 = .ok (.iload_n 1, 1) := by decide +kernel
theorem dX9_sizeOf_5 : decode cX9_sizeOf 5 = .ok (.laload, 1) := by decide +kernel
theorem dX9_sizeOf_6 : decode cX9_sizeOf 6 = .ok (.aload_n 0, 1) := by decide +kernel
theorem dX9_sizeOf_7 : decode cX9_sizeOf 7 = .ok (.getfield 7, 3) := by decide +kernel
theorem dX9_sizeOf_10 : decode cX9_sizeOf 10 = .ok (.iload_n 1, 1) := by decide +kernel
theorem dX9_sizeOf_11 : decode cX9_sizeOf 11 = .ok (.iconst 1, 1) := by decide +kernel
theorem dX9_sizeOf_12 : decode cX9_sizeOf 12 = .ok (.iadd, 1) := by decide +kernel
theorem dX9_sizeOf_13 : decode cX9_sizeOf 13 = .ok (.laload, 1) := by decide +kernel
theorem dX9_sizeOf_14 : decode cX9_sizeOf 14 = .ok (.ladd, 1) := by decide +kernel
theorem dX9_sizeOf_15 : decode cX9_sizeOf 15 = .ok (.lreturn, 1) := by decide +kernel
theorem dX9_worth_0 : decode cX9_worth 0 = .ok (.aload_n 0, 1) := by decide +kernel
theorem dX9_worth_1 : decode cX9_worth 1 = .ok (.getfield 7, 3) := by decide +kernel
theorem dX9_worth_4 : decode cX9_worth 4 = .ok (.iconst 4, 1) := by decide +kernel
theorem dX9_worth_5 : decode cX9_worth 5 = .ok (.laload, 1) := by decide +kernel
theorem dX9_worth_6 : decode cX9_worth 6 = .ok (.lconst 0, 1) := by decide +kernel
theorem dX9_worth_7 : decode cX9_worth 7 = .ok (.lcmp, 1) := by decide +kernel
theorem dX9_worth_8 : decode cX9_worth 8 = .ok (.ifCond .ne 13, 3) := by decide +kernel
theorem dX9_worth_11 : decode cX9_worth 11 = .ok (.aload_n 0, 1) := by decide +kernel
theorem dX9_worth_12 : decode cX9_worth 12 = .ok (.getfield 7, 3) := by decide +kernel
theorem dX9_worth_15 : decode cX9_worth 15 = .ok (.iload_n 1, 1) := by decide +kernel
theorem dX9_worth_16 : decode cX9_worth 16 = .ok (.bipush 6, 2) := by decide +kernel
theorem dX9_worth_18 : decode cX9_worth 18 = .ok (.iadd, 1) := by decide +kernel
theorem dX9_worth_19 : decode cX9_worth 19 = .ok (.laload, 1) := by decide +kernel
theorem dX9_worth_20 : decode cX9_worth 20 = .ok (.lreturn, 1) := by decide +kernel
theorem dX9_worth_21 : decode cX9_worth 21 = .ok (.aload_n 0, 1) := by decide +kernel
theorem dX9_worth_22 : decode cX9_worth 22 = .ok (.getfield 7, 3) := by decide +kernel
theorem dX9_worth_25 : decode cX9_worth 25 = .ok (.iconst 4, 1) := by decide +kernel
theorem dX9_worth_26 : decode cX9_worth 26 = .ok (.laload, 1) := by decide +kernel
theorem dX9_worth_27 : decode cX9_worth 27 = .ok (.lconst 1, 1) := by decide +kernel
theorem dX9_worth_28 : decode cX9_worth 28 = .ok (.lcmp, 1) := by decide +kernel
theorem dX9_worth_29 : decode cX9_worth 29 = .ok (.ifCond .ne 12, 3) := by decide +kernel
theorem dX9_worth_32 : decode cX9_worth 32 = .ok (.aload_n 0, 1) := by decide +kernel
theorem dX9_worth_33 : decode cX9_worth 33 = .ok (.getfield 7, 3) := by decide +kernel
theorem dX9_worth_36 : decode cX9_worth 36 = .ok (.iload_n 1, 1) := by decide +kernel
theorem dX9_worth_37 : decode cX9_worth 37 = .ok (.iconst 5, 1) := by decide +kernel
theorem dX9_worth_38 : decode cX9_worth 38 = .ok (.iadd, 1) := by decide +kernel
theorem dX9_worth_39 : decode cX9_worth 39 = .ok (.laload, 1) := by decide +kernel
theorem dX9_worth_40 : decode cX9_worth 40 = .ok (.lreturn, 1) := by decide +kernel
theorem dX9_worth_41 : decode cX9_worth 41 = .ok (.aload_n 0, 1) := by decide +kernel
theorem dX9_worth_42 : decode cX9_worth 42 = .ok (.getfield 7, 3) := by decide +kernel
theorem dX9_worth_45 : decode cX9_worth 45 = .ok (.iconst 4, 1) := by decide +kernel
theorem dX9_worth_46 : decode cX9_worth 46 = .ok (.laload, 1) := by decide +kernel
theorem dX9_worth_47 : decode cX9_worth 47 = .ok (.ldc2_w 195, 3) := by decide +kernel
theorem dX9_worth_50 : decode cX9_worth 50 = .ok (.lcmp, 1) := by decide +kernel
theorem dX9_worth_51 : decode cX9_worth 51 = .ok (.ifCond .ne 31, 3) := by decide +kernel
theorem dX9_worth_54 : decode cX9_worth 54 = .ok (.aload_n 0, 1) := by decide +kernel
theorem dX9_worth_55 : decode cX9_worth 55 = .ok (.getfield 7, 3) := by decide +kernel
theorem dX9_worth_58 : decode cX9_worth 58 = .ok (.iload_n 1, 1) := by decide +kernel
theorem dX9_worth_59 : decode cX9_worth 59 = .ok (.iconst 4, 1) := by decide +kernel
theorem dX9_worth_60 : decode cX9_worth 60 = .ok (.iadd, 1) := by decide +kernel
theorem dX9_worth_61 : decode cX9_worth 61 = .ok (.laload, 1) := by decide +kernel
theorem dX9_worth_62 : decode cX9_worth 62 = .ok (.lconst 0, 1) := by decide +kernel
theorem dX9_worth_63 : decode cX9_worth 63 = .ok (.lcmp, 1) := by decide +kernel
theorem dX9_worth_64 : decode cX9_worth 64 = .ok (.ifCond .ge 9, 3) := by decide +kernel
theorem dX9_worth_67 : decode cX9_worth 67 = .ok (.ldc2_w 366, 3) := by decide +kernel
theorem dX9_worth_70 : decode cX9_worth 70 = .ok (.goto 11, 3) := by decide +kernel
theorem dX9_worth_73 : decode cX9_worth 73 = .ok (.aload_n 0, 1) := by decide +kernel
theorem dX9_worth_74 : decode cX9_worth 74 = .ok (.getfield 7, 3) := by decide +kernel
theorem dX9_worth_77 : decode cX9_worth 77 = .ok (.iload_n 1, 1) := by decide +kernel
theorem dX9_worth_78 : decode cX9_worth 78 = .ok (.iconst 4, 1) := by decide +kernel
theorem dX9_worth_79 : decode cX9_worth 79 = .ok (.iadd, 1) := by decide +kernel
theorem dX9_worth_80 : decode cX9_worth 80 = .ok (.laload, 1) := by decide +kernel
theorem dX9_worth_81 : decode cX9_worth 81 = .ok (.lreturn, 1) := by decide +kernel
theorem dX9_worth_82 : decode cX9_worth 82 = .ok (.lconst 0, 1) := by decide +kernel
theorem dX9_worth_83 : decode cX9_worth 83 = .ok (.aload_n 0, 1) := by decide +kernel
theorem dX9_worth_84 : decode cX9_worth 84 = .ok (.iload_n 1, 1) := by decide +kernel
theorem dX9_worth_85 : decode cX9_worth 85 = .ok (.invokevirtual 368, 3) := by decide +kernel
theorem dX9_worth_88 : decode cX9_worth 88 = .ok (.lsub, 1) := by decide +kernel
theorem dX9_worth_89 : decode cX9_worth 89 = .ok (.lreturn, 1) := by decide +kernel
theorem dX9_goesAhead_0 : decode cX9_goesAhead 0 = .ok (.aload_n 0, 1) := by decide +kernel
theorem dX9_goesAhead_1 : decode cX9_goesAhead 1 = .ok (.getfield 7, 3) := by decide +kernel
theorem dX9_goesAhead_4 : decode cX9_goesAhead 4 = .ok (.iload_n 1, 1) := by decide +kernel
theorem dX9_goesAhead_5 : decode cX9_goesAhead 5 = .ok (.bipush 12, 2) := by decide +kernel
theorem dX9_goesAhead_7 : decode cX9_goesAhead 7 = .ok (.iadd, 1) := by decide +kernel
theorem dX9_goesAhead_8 : decode cX9_goesAhead 8 = .ok (.laload, 1) := by decide +kernel
theorem dX9_goesAhead_9 : decode cX9_goesAhead 9 = .ok (.aload_n 0, 1) := by decide +kernel
theorem dX9_goesAhead_10 : decode cX9_goesAhead 10 = .ok (.getfield 7, 3) := by decide +kernel
theorem dX9_goesAhead_13 : decode cX9_goesAhead 13 = .ok (.iload_n 2, 1) := by decide +kernel
theorem dX9_goesAhead_14 : decode cX9_goesAhead 14 = .ok (.bipush 12, 2) := by decide +kernel
theorem dX9_goesAhead_16 : decode cX9_goesAhead 16 = .ok (.iadd, 1) := by decide +kernel
theorem dX9_goesAhead_17 : decode cX9_goesAhead 17 = .ok (.laload, 1) := by decide +kernel
theorem dX9_goesAhead_18 : decode cX9_goesAhead 18 = .ok (.lcmp, 1) := by decide +kernel
theorem dX9_goesAhead_19 : decode cX9_goesAhead 19 = .ok (.ifCond .eq 31, 3) := by decide +kernel
theorem dX9_goesAhead_22 : decode cX9_goesAhead 22 = .ok (.aload_n 0, 1) := by decide +kernel
theorem dX9_goesAhead_23 : decode cX9_goesAhead 23 = .ok (.getfield 7, 3) := by decide +kernel
theorem dX9_goesAhead_26 : decode cX9_goesAhead 26 = .ok (.iload_n 1, 1) := by decide +kernel
theorem dX9_goesAhead_27 : decode cX9_goesAhead 27 = .ok (.bipush 12, 2) := by decide +kernel
theorem dX9_goesAhead_29 : decode cX9_goesAhead 29 = .ok (.iadd, 1) := by decide +kernel
theorem dX9_goesAhead_30 : decode cX9_goesAhead 30 = .ok (.laload, 1) := by decide +kernel
theorem dX9_goesAhead_31 : decode cX9_goesAhead 31 = .ok (.aload_n 0, 1) := by decide +kernel
theorem dX9_goesAhead_32 : decode cX9_goesAhead 32 = .ok (.getfield 7, 3) := by decide +kernel
theorem dX9_goesAhead_35 : decode cX9_goesAhead 35 = .ok (.iload_n 2, 1) := by decide +kernel
theorem dX9_goesAhead_36 : decode cX9_goesAhead 36 = .ok (.bipush 12, 2) := by decide +kernel
theorem dX9_goesAhead_38 : decode cX9_goesAhead 38 = .ok (.iadd, 1) := by decide +kernel
theorem dX9_goesAhead_39 : decode cX9_goesAhead 39 = .ok (.laload, 1) := by decide +kernel
theorem dX9_goesAhead_40 : decode cX9_goesAhead 40 = .ok (.lcmp, 1) := by decide +kernel
theorem dX9_goesAhead_41 : decode cX9_goesAhead 41 = .ok (.ifCond .ge 7, 3) := by decide +kernel
theorem dX9_goesAhead_44 : decode cX9_goesAhead 44 = .ok (.iconst 1, 1) := by decide +kernel
theorem dX9_goesAhead_45 : decode cX9_goesAhead 45 = .ok (.goto 4, 3) := by decide +kernel
theorem dX9_goesAhead_48 : decode cX9_goesAhead 48 = .ok (.iconst 0, 1) := by decide +kernel
theorem dX9_goesAhead_49 : decode cX9_goesAhead 49 = .ok (.ireturn, 1) := by decide +kernel
theorem dX9_goesAhead_50 : decode cX9_goesAhead 50 = .ok (.aload_n 0, 1) := by decide +kernel
theorem dX9_goesAhead_51 : decode cX9_goesAhead 51 = .ok (.getfield 7, 3) := by decide +kernel
theorem dX9_goesAhead_54 : decode cX9_goesAhead 54 = .ok (.iload_n 1, 1) := by decide +kernel
theorem dX9_goesAhead_55 : decode cX9_goesAhead 55 = .ok (.bipush 9, 2) := by decide +kernel
theorem dX9_goesAhead_57 : decode cX9_goesAhead 57 = .ok (.iadd, 1) := by decide +kernel
theorem dX9_goesAhead_58 : decode cX9_goesAhead 58 = .ok (.laload, 1) := by decide +kernel
theorem dX9_goesAhead_59 : decode cX9_goesAhead 59 = .ok (.aload_n 0, 1) := by decide +kernel
theorem dX9_goesAhead_60 : decode cX9_goesAhead 60 = .ok (.getfield 7, 3) := by decide +kernel
theorem dX9_goesAhead_63 : decode cX9_goesAhead 63 = .ok (.iload_n 2, 1) := by decide +kernel
theorem dX9_goesAhead_64 : decode cX9_goesAhead 64 = .ok (.bipush 9, 2) := by decide +kernel
theorem dX9_goesAhead_66 : decode cX9_goesAhead 66 = .ok (.iadd, 1) := by decide +kernel
theorem dX9_goesAhead_67 : decode cX9_goesAhead 67 = .ok (.laload, 1) := by decide +kernel
theorem dX9_goesAhead_68 : decode cX9_goesAhead 68 = .ok (.lcmp, 1) := by decide +kernel
theorem dX9_goesAhead_69 : decode cX9_goesAhead 69 = .ok (.ifCond .eq 23, 3) := by decide +kernel
theorem dX9_goesAhead_72 : decode cX9_goesAhead 72 = .ok (.aload_n 0, 1) := by decide +kernel
theorem dX9_goesAhead_73 : decode cX9_goesAhead 73 = .ok (.getfield 7, 3) := by decide +kernel
theorem dX9_goesAhead_76 : decode cX9_goesAhead 76 = .ok (.iload_n 1, 1) := by decide +kernel
theorem dX9_goesAhead_77 : decode cX9_goesAhead 77 = .ok (.bipush 9, 2) := by decide +kernel
theorem dX9_goesAhead_79 : decode cX9_goesAhead 79 = .ok (.iadd, 1) := by decide +kernel
theorem dX9_goesAhead_80 : decode cX9_goesAhead 80 = .ok (.laload, 1) := by decide +kernel
theorem dX9_goesAhead_81 : decode cX9_goesAhead 81 = .ok (.lconst 0, 1) := by decide +kernel
theorem dX9_goesAhead_82 : decode cX9_goesAhead 82 = .ok (.lcmp, 1) := by decide +kernel
theorem dX9_goesAhead_83 : decode cX9_goesAhead 83 = .ok (.ifCond .ne 7, 3) := by decide +kernel
theorem dX9_goesAhead_86 : decode cX9_goesAhead 86 = .ok (.iconst 1, 1) := by decide +kernel
theorem dX9_goesAhead_87 : decode cX9_goesAhead 87 = .ok (.goto 4, 3) := by decide +kernel
theorem dX9_goesAhead_90 : decode cX9_goesAhead 90 = .ok (.iconst 0, 1) := by decide +kernel
theorem dX9_goesAhead_91 : decode cX9_goesAhead 91 = .ok (.ireturn, 1) := by decide +kernel
theorem dX9_goesAhead_92 : decode cX9_goesAhead 92 = .ok (.aload_n 0, 1) := by decide +kernel
theorem dX9_goesAhead_93 : decode cX9_goesAhead 93 = .ok (.iload_n 1, 1) := by decide +kernel
theorem dX9_goesAhead_94 : decode cX9_goesAhead 94 = .ok (.invokevirtual 371, 3) := by decide +kernel
theorem dX9_goesAhead_97 : decode cX9_goesAhead 97 = .ok (.aload_n 0, 1) := by decide +kernel
theorem dX9_goesAhead_98 : decode cX9_goesAhead 98 = .ok (.iload_n 2, 1) := by decide +kernel
theorem dX9_goesAhead_99 : decode cX9_goesAhead 99 = .ok (.invokevirtual 371, 3) := by decide +kernel
theorem dX9_goesAhead_102 : decode cX9_goesAhead 102 = .ok (.lcmp, 1) := by decide +kernel
theorem dX9_goesAhead_103 : decode cX9_goesAhead 103 = .ok (.ifCond .lt 39, 3) := by decide +kernel
theorem dX9_goesAhead_106 : decode cX9_goesAhead 106 = .ok (.aload_n 0, 1) := by decide +kernel
theorem dX9_goesAhead_107 : decode cX9_goesAhead 107 = .ok (.iload_n 1, 1) := by decide +kernel
theorem dX9_goesAhead_108 : decode cX9_goesAhead 108 = .ok (.invokevirtual 371, 3) := by decide +kernel
theorem dX9_goesAhead_111 : decode cX9_goesAhead 111 = .ok (.aload_n 0, 1) := by decide +kernel
theorem dX9_goesAhead_112 : decode cX9_goesAhead 112 = .ok (.iload_n 2, 1) := by decide +kernel
theorem dX9_goesAhead_113 : decode cX9_goesAhead 113 = .ok (.invokevirtual 371, 3) := by decide +kernel
theorem dX9_goesAhead_116 : decode cX9_goesAhead 116 = .ok (.lcmp, 1) := by decide +kernel
theorem dX9_goesAhead_117 : decode cX9_goesAhead 117 = .ok (.ifCond .ne 29, 3) := by decide +kernel
theorem dX9_goesAhead_120 : decode cX9_goesAhead 120 = .ok (.aload_n 0, 1) := by decide +kernel
theorem dX9_goesAhead_121 : decode cX9_goesAhead 121 = .ok (.getfield 7, 3) := by decide +kernel
theorem dX9_goesAhead_124 : decode cX9_goesAhead 124 = .ok (.iload_n 1, 1) := by decide +kernel
theorem dX9_goesAhead_125 : decode cX9_goesAhead 125 = .ok (.bipush 7, 2) := by decide +kernel
theorem dX9_goesAhead_127 : decode cX9_goesAhead 127 = .ok (.iadd, 1) := by decide +kernel
theorem dX9_goesAhead_128 : decode cX9_goesAhead 128 = .ok (.laload, 1) := by decide +kernel
theorem dX9_goesAhead_129 : decode cX9_goesAhead 129 = .ok (.aload_n 0, 1) := by decide +kernel
theorem dX9_goesAhead_130 : decode cX9_goesAhead 130 = .ok (.getfield 7, 3) := by decide +kernel
theorem dX9_goesAhead_133 : decode cX9_goesAhead 133 = .ok (.iload_n 2, 1) := by decide +kernel
theorem dX9_goesAhead_134 : decode cX9_goesAhead 134 = .ok (.bipush 7, 2) := by decide +kernel
theorem dX9_goesAhead_136 : decode cX9_goesAhead 136 = .ok (.iadd, 1) := by decide +kernel
theorem dX9_goesAhead_137 : decode cX9_goesAhead 137 = .ok (.laload, 1) := by decide +kernel
theorem dX9_goesAhead_138 : decode cX9_goesAhead 138 = .ok (.lcmp, 1) := by decide +kernel
theorem dX9_goesAhead_139 : decode cX9_goesAhead 139 = .ok (.ifCond .ge 7, 3) := by decide +kernel
theorem dX9_goesAhead_142 : decode cX9_goesAhead 142 = .ok (.iconst 1, 1) := by decide +kernel
theorem dX9_goesAhead_143 : decode cX9_goesAhead 143 = .ok (.goto 4, 3) := by decide +kernel
theorem dX9_goesAhead_146 : decode cX9_goesAhead 146 = .ok (.iconst 0, 1) := by decide +kernel
theorem dX9_goesAhead_147 : decode cX9_goesAhead 147 = .ok (.ireturn, 1) := by decide +kernel
theorem dX9_isOfNew_0 : decode cX9_isOfNew 0 = .ok (.iload_n 1, 1) := by decide +kernel
theorem dX9_isOfNew_1 : decode cX9_isOfNew 1 = .ok (.invokestatic 324, 3) := by decide +kernel
theorem dX9_isOfNew_4 : decode cX9_isOfNew 4 = .ok (.istore_n 2, 1) := by decide +kernel
theorem dX9_isOfNew_5 : decode cX9_isOfNew 5 = .ok (.aload_n 0, 1) := by decide +kernel
theorem dX9_isOfNew_6 : decode cX9_isOfNew 6 = .ok (.iload_n 2, 1) := by decide +kernel
theorem dX9_isOfNew_7 : decode cX9_isOfNew 7 = .ok (.bipush 62, 2) := by decide +kernel
theorem dX9_isOfNew_9 : decode cX9_isOfNew 9 = .ok (.iadd, 1) := by decide +kernel
theorem dX9_isOfNew_10 : decode cX9_isOfNew 10 = .ok (.aload_n 0, 1) := by decide +kernel
theorem dX9_isOfNew_11 : decode cX9_isOfNew 11 = .ok (.getfield 7, 3) := by decide +kernel
theorem dX9_isOfNew_14 : decode cX9_isOfNew 14 = .ok (.iload_n 2, 1) := by decide +kernel
theorem dX9_isOfNew_15 : decode cX9_isOfNew 15 = .ok (.iconst 2, 1) := by decide +kernel
theorem dX9_isOfNew_16 : decode cX9_isOfNew 16 = .ok (.iadd, 1) := by decide +kernel
theorem dX9_isOfNew_17 : decode cX9_isOfNew 17 = .ok (.laload, 1) := by decide +kernel
theorem dX9_isOfNew_18 : decode cX9_isOfNew 18 = .ok (.l2i, 1) := by decide +kernel
theorem dX9_isOfNew_19 : decode cX9_isOfNew 19 = .ok (.sipush 8662, 3) := by decide +kernel
theorem dX9_isOfNew_22 : decode cX9_isOfNew 22 = .ok (.aload_n 0, 1) := by decide +kernel
theorem dX9_isOfNew_23 : decode cX9_isOfNew 23 = .ok (.getfield 7, 3) := by decide +kernel
theorem dX9_isOfNew_26 : decode cX9_isOfNew 26 = .ok (.sipush 8602, 3) := by decide +kernel
theorem dX9_isOfNew_29 : decode cX9_isOfNew 29 = .ok (.laload, 1) := by decide +kernel
theorem dX9_isOfNew_30 : decode cX9_isOfNew 30 = .ok (.l2i, 1) := by decide +kernel
theorem dX9_isOfNew_31 : decode cX9_isOfNew 31 = .ok (.invokevirtual 159, 3) := by decide +kernel
theorem dX9_isOfNew_34 : decode cX9_isOfNew 34 = .ok (.ireturn, 1) := by decide +kernel
theorem dX9_victimBut_0 : decode cX9_victimBut 0 = .ok (.iconst (-1), 1) := by decide +kernel
theorem dX9_victimBut_1 : decode cX9_victimBut 1 = .ok (.istore 4, 2) := by decide +kernel
theorem dX9_victimBut_3 : decode cX9_victimBut 3 = .ok (.iconst 0, 1) := by decide +kernel
theorem dX9_victimBut_4 : decode cX9_victimBut 4 = .ok (.istore 5, 2) := by decide +kernel
theorem dX9_victimBut_6 : decode cX9_victimBut 6 = .ok (.iload 5, 2) := by decide +kernel
theorem dX9_victimBut_8 : decode cX9_victimBut 8 = .ok (.i2l, 1) := by decide +kernel
theorem dX9_victimBut_9 : decode cX9_victimBut 9 = .ok (.aload_n 0, 1) := by decide +kernel
theorem dX9_victimBut_10 : decode cX9_victimBut 10 = .ok (.getfield 7, 3) := by decide +kernel
theorem dX9_victimBut_13 : decode cX9_victimBut 13 = .ok (.iconst 5, 1) := by decide +kernel
theorem dX9_victimBut_14 : decode cX9_victimBut 14 = .ok (.laload, 1) := by decide +kernel
theorem dX9_victimBut_15 : decode cX9_victimBut 15 = .ok (.lcmp, 1) := by decide +kernel
theorem dX9_victimBut_16 : decode cX9_victimBut 16 = .ok (.ifCond .ge 83, 3) := by decide +kernel
theorem dX9_victimBut_19 : decode cX9_victimBut 19 = .ok (.aload_n 0, 1) := by decide +kernel
theorem dX9_victimBut_20 : decode cX9_victimBut 20 = .ok (.getfield 7, 3) := by decide +kernel
theorem dX9_victimBut_23 : decode cX9_victimBut 23 = .ok (.iload 5, 2) := by decide +kernel
theorem dX9_victimBut_25 : decode cX9_victimBut 25 = .ok (.invokestatic 324, 3) := by decide +kernel
theorem dX9_victimBut_28 : decode cX9_victimBut 28 = .ok (.bipush 7, 2) := by decide +kernel
theorem dX9_victimBut_30 : decode cX9_victimBut 30 = .ok (.iadd, 1) := by decide +kernel
theorem dX9_victimBut_31 : decode cX9_victimBut 31 = .ok (.laload, 1) := by decide +kernel
theorem dX9_victimBut_32 : decode cX9_victimBut 32 = .ok (.lload_n 1, 1) := by decide +kernel
theorem dX9_victimBut_33 : decode cX9_victimBut 33 = .ok (.lcmp, 1) := by decide +kernel
theorem dX9_victimBut_34 : decode cX9_victimBut 34 = .ok (.ifCond .eq 20, 3) := by decide +kernel
theorem dX9_victimBut_37 : decode cX9_victimBut 37 = .ok (.iload_n 3, 1) := by decide +kernel
theorem dX9_victimBut_38 : decode cX9_victimBut 38 = .ok (.ifCond .eq 12, 3) := by decide +kernel
theorem dX9_victimBut_41 : decode cX9_victimBut 41 = .ok (.aload_n 0, 1) := by decide +kernel
theorem dX9_victimBut_42 : decode cX9_victimBut 42 = .ok (.iload 5, 2) := by decide +kernel
theorem dX9_victimBut_44 : decode cX9_victimBut 44 = .ok (.invokevirtual 374, 3) := by decide +kernel
theorem dX9_victimBut_47 : decode cX9_victimBut 47 = .ok (.ifCond .eq 7, 3) := by decide +kernel
theorem dX9_victimBut_50 : decode cX9_victimBut 50 = .ok (.iconst 1, 1) := by decide +kernel
theorem dX9_victimBut_51 : decode cX9_victimBut 51 = .ok (.goto 4, 3) := by decide +kernel
theorem dX9_victimBut_54 : decode cX9_victimBut 54 = .ok (.iconst 0, 1) := by decide +kernel
theorem dX9_victimBut_55 : decode cX9_victimBut 55 = .ok (.istore 6, 2) := by decide +kernel
theorem dX9_victimBut_57 : decode cX9_victimBut 57 = .ok (.iload 6, 2) := by decide +kernel
theorem dX9_victimBut_59 : decode cX9_victimBut 59 = .ok (.ifCond .eq 30, 3) := by decide +kernel
theorem dX9_victimBut_62 : decode cX9_victimBut 62 = .ok (.iload 4, 2) := by decide +kernel
theorem dX9_victimBut_64 : decode cX9_victimBut 64 = .ok (.ifCond .lt 20, 3) := by decide +kernel
theorem dX9_victimBut_67 : decode cX9_victimBut 67 = .ok (.aload_n 0, 1) := by decide +kernel
theorem dX9_victimBut_68 : decode cX9_victimBut 68 = .ok (.iload 5, 2) := by decide +kernel
theorem dX9_victimBut_70 : decode cX9_victimBut 70 = .ok (.invokestatic 324, 3) := by decide +kernel
theorem dX9_victimBut_73 : decode cX9_victimBut 73 = .ok (.iload 4, 2) := by decide +kernel
theorem dX9_victimBut_75 : decode cX9_victimBut 75 = .ok (.invokestatic 324, 3) := by decide +kernel
theorem dX9_victimBut_78 : decode cX9_victimBut 78 = .ok (.invokevirtual 377, 3) := by decide +kernel
theorem dX9_victimBut_81 : decode cX9_victimBut 81 = .ok (.ifCond .eq 8, 3) := by decide +kernel
theorem dX9_victimBut_84 : decode cX9_victimBut 84 = .ok (.iload 5, 2) := by decide +kernel
theorem dX9_victimBut_86 : decode cX9_victimBut 86 = .ok (.goto 5, 3) := by decide +kernel
theorem dX9_victimBut_89 : decode cX9_victimBut 89 = .ok (.iload 4, 2) := by decide +kernel
theorem dX9_victimBut_91 : decode cX9_victimBut 91 = .ok (.istore 4, 2) := by decide +kernel
theorem dX9_victimBut_93 : decode cX9_victimBut 93 = .ok (.iinc 5 1, 3) := by decide +kernel
theorem dX9_victimBut_96 : decode cX9_victimBut 96 = .ok (.goto (-90), 3) := by decide +kernel
theorem dX9_victimBut_99 : decode cX9_victimBut 99 = .ok (.iload 4, 2) := by decide +kernel
theorem dX9_victimBut_101 : decode cX9_victimBut 101 = .ok (.ireturn, 1) := by decide +kernel
theorem dX9_ofSite_0 : decode cX9_ofSite 0 = .ok (.iconst 0, 1) := by decide +kernel
theorem dX9_ofSite_1 : decode cX9_ofSite 1 = .ok (.istore_n 1, 1) := by decide +kernel
theorem dX9_ofSite_2 : decode cX9_ofSite 2 = .ok (.iconst 0, 1) := by decide +kernel
theorem dX9_ofSite_3 : decode cX9_ofSite 3 = .ok (.istore_n 2, 1) := by decide +kernel
theorem dX9_ofSite_4 : decode cX9_ofSite 4 = .ok (.iload_n 2, 1) := by decide +kernel
theorem dX9_ofSite_5 : decode cX9_ofSite 5 = .ok (.i2l, 1) := by decide +kernel
theorem dX9_ofSite_6 : decode cX9_ofSite 6 = .ok (.aload_n 0, 1) := by decide +kernel
theorem dX9_ofSite_7 : decode cX9_ofSite 7 = .ok (.getfield 7, 3) := by decide +kernel
theorem dX9_ofSite_10 : decode cX9_ofSite 10 = .ok (.iconst 5, 1) := by decide +kernel
theorem dX9_ofSite_11 : decode cX9_ofSite 11 = .ok (.laload, 1) := by decide +kernel
theorem dX9_ofSite_12 : decode cX9_ofSite 12 = .ok (.lcmp, 1) := by decide +kernel
theorem dX9_ofSite_13 : decode cX9_ofSite 13 = .ok (.ifCond .ge 25, 3) := by decide +kernel
theorem dX9_ofSite_16 : decode cX9_ofSite 16 = .ok (.iload_n 1, 1) := by decide +kernel
theorem dX9_ofSite_17 : decode cX9_ofSite 17 = .ok (.aload_n 0, 1) := by decide +kernel
theorem dX9_ofSite_18 : decode cX9_ofSite 18 = .ok (.iload_n 2, 1) := by decide +kernel
theorem dX9_ofSite_19 : decode cX9_ofSite 19 = .ok (.invokevirtual 374, 3) := by decide +kernel
theorem dX9_ofSite_22 : decode cX9_ofSite 22 = .ok (.ifCond .eq 7, 3) := by decide +kernel
theorem dX9_ofSite_25 : decode cX9_ofSite 25 = .ok (.iconst 1, 1) := by decide +kernel
theorem dX9_ofSite_26 : decode cX9_ofSite 26 = .ok (.goto 4, 3) := by decide +kernel
theorem dX9_ofSite_29 : decode cX9_ofSite 29 = .ok (.iconst 0, 1) := by decide +kernel
theorem dX9_ofSite_30 : decode cX9_ofSite 30 = .ok (.iadd, 1) := by decide +kernel
theorem dX9_ofSite_31 : decode cX9_ofSite 31 = .ok (.istore_n 1, 1) := by decide +kernel
theorem dX9_ofSite_32 : decode cX9_ofSite 32 = .ok (.iinc 2 1, 3) := by decide +kernel
theorem dX9_ofSite_35 : decode cX9_ofSite 35 = .ok (.goto (-31), 3) := by decide +kernel
theorem dX9_ofSite_38 : decode cX9_ofSite 38 = .ok (.iload_n 1, 1) := by decide +kernel
theorem dX9_ofSite_39 : decode cX9_ofSite 39 = .ok (.ireturn, 1) := by decide +kernel
theorem dX9_evicts_0 : decode cX9_evicts 0 = .ok (.iconst 0, 1) := by decide +kernel
theorem dX9_evicts_1 : decode cX9_evicts 1 = .ok (.istore_n 3, 1) := by decide +kernel
theorem dX9_evicts_2 : decode cX9_evicts 2 = .ok (.iload_n 3, 1) := by decide +kernel
theorem dX9_evicts_3 : decode cX9_evicts 3 = .ok (.bipush 42, 2) := by decide +kernel
theorem dX9_evicts_5 : decode cX9_evicts 5 = .ok (.if_icmp .ge 45, 3) := by decide +kernel
theorem dX9_evicts_8 : decode cX9_evicts 8 = .ok (.aload_n 0, 1) := by decide +kernel
theorem dX9_evicts_9 : decode cX9_evicts 9 = .ok (.invokevirtual 380, 3) := by decide +kernel
theorem dX9_evicts_12 : decode cX9_evicts 12 = .ok (.i2l, 1) := by decide +kernel
theorem dX9_evicts_13 : decode cX9_evicts 13 = .ok (.aload_n 0, 1) := by decide +kernel
theorem dX9_evicts_14 : decode cX9_evicts 14 = .ok (.getfield 7, 3) := by decide +kernel
theorem dX9_evicts_17 : decode cX9_evicts 17 = .ok (.iconst 2, 1) := by decide +kernel
theorem dX9_evicts_18 : decode cX9_evicts 18 = .ok (.laload, 1) := by decide +kernel
theorem dX9_evicts_19 : decode cX9_evicts 19 = .ok (.lcmp, 1) := by decide +kernel
theorem dX9_evicts_20 : decode cX9_evicts 20 = .ok (.ifCond .le 30, 3) := by decide +kernel
theorem dX9_evicts_23 : decode cX9_evicts 23 = .ok (.aload_n 0, 1) := by decide +kernel
theorem dX9_evicts_24 : decode cX9_evicts 24 = .ok (.aload_n 0, 1) := by decide +kernel
theorem dX9_evicts_25 : decode cX9_evicts 25 = .ok (.lload_n 1, 1) := by decide +kernel
theorem dX9_evicts_26 : decode cX9_evicts 26 = .ok (.iconst 1, 1) := by decide +kernel
theorem dX9_evicts_27 : decode cX9_evicts 27 = .ok (.invokevirtual 383, 3) := by decide +kernel
theorem dX9_evicts_30 : decode cX9_evicts 30 = .ok (.invokevirtual 358, 3) := by decide +kernel
theorem dX9_evicts_33 : decode cX9_evicts 33 = .ok (.aload_n 0, 1) := by decide +kernel
theorem dX9_evicts_34 : decode cX9_evicts 34 = .ok (.getfield 7, 3) := by decide +kernel
theorem dX9_evicts_37 : decode cX9_evicts 37 = .ok (.bipush 14, 2) := by decide +kernel
theorem dX9_evicts_39 : decode cX9_evicts 39 = .ok (.dup2, 1) := by decide +kernel
theorem dX9_evicts_40 : decode cX9_evicts 40 = .ok (.laload, 1) := by decide +kernel
theorem dX9_evicts_41 : decode cX9_evicts 41 = .ok (.lconst 1, 1) := by decide +kernel
theorem dX9_evicts_42 : decode cX9_evicts 42 = .ok (.ladd, 1) := by decide +kernel
theorem dX9_evicts_43 : decode cX9_evicts 43 = .ok (.lastore, 1) := by decide +kernel
theorem dX9_evicts_44 : decode cX9_evicts 44 = .ok (.iinc 3 1, 3) := by decide +kernel
theorem dX9_evicts_47 : decode cX9_evicts 47 = .ok (.goto (-45), 3) := by decide +kernel
theorem dX9_evicts_50 : decode cX9_evicts 50 = .ok (.iconst 0, 1) := by decide +kernel
theorem dX9_evicts_51 : decode cX9_evicts 51 = .ok (.istore_n 3, 1) := by decide +kernel
theorem dX9_evicts_52 : decode cX9_evicts 52 = .ok (.iload_n 3, 1) := by decide +kernel
theorem dX9_evicts_53 : decode cX9_evicts 53 = .ok (.bipush 42, 2) := by decide +kernel
theorem dX9_evicts_55 : decode cX9_evicts 55 = .ok (.if_icmp .ge 46, 3) := by decide +kernel
theorem dX9_evicts_58 : decode cX9_evicts 58 = .ok (.aload_n 0, 1) := by decide +kernel
theorem dX9_evicts_59 : decode cX9_evicts 59 = .ok (.getfield 7, 3) := by decide +kernel
theorem dX9_evicts_62 : decode cX9_evicts 62 = .ok (.iconst 5, 1) := by decide +kernel
theorem dX9_evicts_63 : decode cX9_evicts 63 = .ok (.laload, 1) := by decide +kernel
theorem dX9_evicts_64 : decode cX9_evicts 64 = .ok (.aload_n 0, 1) := by decide +kernel
theorem dX9_evicts_65 : decode cX9_evicts 65 = .ok (.getfield 7, 3) := by decide +kernel
theorem dX9_evicts_68 : decode cX9_evicts 68 = .ok (.iconst 3, 1) := by decide +kernel
theorem dX9_evicts_69 : decode cX9_evicts 69 = .ok (.laload, 1) := by decide +kernel
theorem dX9_evicts_70 : decode cX9_evicts 70 = .ok (.lcmp, 1) := by decide +kernel
theorem dX9_evicts_71 : decode cX9_evicts 71 = .ok (.ifCond .le 30, 3) := by decide +kernel
theorem dX9_evicts_74 : decode cX9_evicts 74 = .ok (.aload_n 0, 1) := by decide +kernel
theorem dX9_evicts_75 : decode cX9_evicts 75 = .ok (.aload_n 0, 1) := by decide +kernel
theorem dX9_evicts_76 : decode cX9_evicts 76 = .ok (.lload_n 1, 1) := by decide +kernel
theorem dX9_evicts_77 : decode cX9_evicts 77 = .ok (.iconst 0, 1) := by decide +kernel
theorem dX9_evicts_78 : decode cX9_evicts 78 = .ok (.invokevirtual 383, 3) := by decide +kernel
theorem dX9_evicts_81 : decode cX9_evicts 81 = .ok (.invokevirtual 358, 3) := by decide +kernel
theorem dX9_evicts_84 : decode cX9_evicts 84 = .ok (.aload_n 0, 1) := by decide +kernel
theorem dX9_evicts_85 : decode cX9_evicts 85 = .ok (.getfield 7, 3) := by decide +kernel
theorem dX9_evicts_88 : decode cX9_evicts 88 = .ok (.bipush 14, 2) := by decide +kernel
theorem dX9_evicts_90 : decode cX9_evicts 90 = .ok (.dup2, 1) := by decide +kernel
theorem dX9_evicts_91 : decode cX9_evicts 91 = .ok (.laload, 1) := by decide +kernel
theorem dX9_evicts_92 : decode cX9_evicts 92 = .ok (.lconst 1, 1) := by decide +kernel
theorem dX9_evicts_93 : decode cX9_evicts 93 = .ok (.ladd, 1) := by decide +kernel
theorem dX9_evicts_94 : decode cX9_evicts 94 = .ok (.lastore, 1) := by decide +kernel
theorem dX9_evicts_95 : decode cX9_evicts 95 = .ok (.iinc 3 1, 3) := by decide +kernel
theorem dX9_evicts_98 : decode cX9_evicts 98 = .ok (.goto (-46), 3) := by decide +kernel
theorem dX9_evicts_101 : decode cX9_evicts 101 = .ok (.return_, 1) := by decide +kernel
theorem dX9_isSent_0 : decode cX9_isSent 0 = .ok (.bipush 104, 2) := by decide +kernel
theorem dX9_isSent_2 : decode cX9_isSent 2 = .ok (.istore 4, 2) := by decide +kernel
theorem dX9_isSent_4 : decode cX9_isSent 4 = .ok (.aload_n 0, 1) := by decide +kernel
theorem dX9_isSent_5 : decode cX9_isSent 5 = .ok (.iload 4, 2) := by decide +kernel
theorem dX9_isSent_7 : decode cX9_isSent 7 = .ok (.aload_n 0, 1) := by decide +kernel
theorem dX9_isSent_8 : decode cX9_isSent 8 = .ok (.invokevirtual 169, 3) := by decide +kernel
theorem dX9_isSent_11 : decode cX9_isSent 11 = .ok (.iload_n 1, 1) := by decide +kernel
theorem dX9_isSent_12 : decode cX9_isSent 12 = .ok (.bipush 62, 2) := by decide +kernel
theorem dX9_isSent_14 : decode cX9_isSent 14 = .ok (.iadd, 1) := by decide +kernel
theorem dX9_isSent_15 : decode cX9_isSent 15 = .ok (.aload_n 0, 1) := by decide +kernel
theorem dX9_isSent_16 : decode cX9_isSent 16 = .ok (.getfield 7, 3) := by decide +kernel
theorem dX9_isSent_19 : decode cX9_isSent 19 = .ok (.iload_n 1, 1) := by decide +kernel
theorem dX9_isSent_20 : decode cX9_isSent 20 = .ok (.iconst 2, 1) := by decide +kernel
theorem dX9_isSent_21 : decode cX9_isSent 21 = .ok (.iadd, 1) := by decide +kernel
theorem dX9_isSent_22 : decode cX9_isSent 22 = .ok (.laload, 1) := by decide +kernel
theorem dX9_isSent_23 : decode cX9_isSent 23 = .ok (.l2i, 1) := by decide +kernel
theorem dX9_isSent_24 : decode cX9_isSent 24 = .ok (.invokevirtual 108, 3) := by decide +kernel
theorem dX9_isSent_27 : decode cX9_isSent 27 = .ok (.istore 5, 2) := by decide +kernel
theorem dX9_isSent_29 : decode cX9_isSent 29 = .ok (.aload_n 0, 1) := by decide +kernel
theorem dX9_isSent_30 : decode cX9_isSent 30 = .ok (.getfield 7, 3) := by decide +kernel
theorem dX9_isSent_33 : decode cX9_isSent 33 = .ok (.iload_n 1, 1) := by decide +kernel
theorem dX9_isSent_34 : decode cX9_isSent 34 = .ok (.bipush 8, 2) := by decide +kernel
theorem dX9_isSent_36 : decode cX9_isSent 36 = .ok (.iadd, 1) := by decide +kernel
theorem dX9_isSent_37 : decode cX9_isSent 37 = .ok (.laload, 1) := by decide +kernel
theorem dX9_isSent_38 : decode cX9_isSent 38 = .ok (.lconst 1, 1) := by decide +kernel
theorem dX9_isSent_39 : decode cX9_isSent 39 = .ok (.lcmp, 1) := by decide +kernel
theorem dX9_isSent_40 : decode cX9_isSent 40 = .ok (.ifCond .ne 8, 3) := by decide +kernel
theorem dX9_isSent_43 : decode cX9_isSent 43 = .ok (.iload 5, 2) := by decide +kernel
theorem dX9_isSent_45 : decode cX9_isSent 45 = .ok (.goto 26, 3) := by decide +kernel
theorem dX9_isSent_48 : decode cX9_isSent 48 = .ok (.aload_n 0, 1) := by decide +kernel
theorem dX9_isSent_49 : decode cX9_isSent 49 = .ok (.iload 4, 2) := by decide +kernel
theorem dX9_isSent_51 : decode cX9_isSent 51 = .ok (.aload_n 0, 1) := by decide +kernel
theorem dX9_isSent_52 : decode cX9_isSent 52 = .ok (.invokevirtual 169, 3) := by decide +kernel
theorem dX9_isSent_55 : decode cX9_isSent 55 = .ok (.iload_n 1, 1) := by decide +kernel
theorem dX9_isSent_56 : decode cX9_isSent 56 = .ok (.bipush 62, 2) := by decide +kernel
theorem dX9_isSent_58 : decode cX9_isSent 58 = .ok (.iadd, 1) := by decide +kernel
theorem dX9_isSent_59 : decode cX9_isSent 59 = .ok (.aload_n 0, 1) := by decide +kernel
theorem dX9_isSent_60 : decode cX9_isSent 60 = .ok (.getfield 7, 3) := by decide +kernel
theorem dX9_isSent_63 : decode cX9_isSent 63 = .ok (.iload_n 1, 1) := by decide +kernel
theorem dX9_isSent_64 : decode cX9_isSent 64 = .ok (.iconst 2, 1) := by decide +kernel
theorem dX9_isSent_65 : decode cX9_isSent 65 = .ok (.iadd, 1) := by decide +kernel
theorem dX9_isSent_66 : decode cX9_isSent 66 = .ok (.laload, 1) := by decide +kernel
theorem dX9_isSent_67 : decode cX9_isSent 67 = .ok (.l2i, 1) := by decide +kernel
theorem dX9_isSent_68 : decode cX9_isSent 68 = .ok (.invokevirtual 112, 3) := by decide +kernel
theorem dX9_isSent_71 : decode cX9_isSent 71 = .ok (.istore 6, 2) := by decide +kernel
theorem dX9_isSent_73 : decode cX9_isSent 73 = .ok (.aload_n 0, 1) := by decide +kernel
theorem dX9_isSent_74 : decode cX9_isSent 74 = .ok (.getfield 7, 3) := by decide +kernel
theorem dX9_isSent_77 : decode cX9_isSent 77 = .ok (.iload_n 1, 1) := by decide +kernel
theorem dX9_isSent_78 : decode cX9_isSent 78 = .ok (.bipush 9, 2) := by decide +kernel
theorem dX9_isSent_80 : decode cX9_isSent 80 = .ok (.iadd, 1) := by decide +kernel
theorem dX9_isSent_81 : decode cX9_isSent 81 = .ok (.laload, 1) := by decide +kernel
theorem dX9_isSent_82 : decode cX9_isSent 82 = .ok (.lconst 0, 1) := by decide +kernel
theorem dX9_isSent_83 : decode cX9_isSent 83 = .ok (.lcmp, 1) := by decide +kernel
theorem dX9_isSent_84 : decode cX9_isSent 84 = .ok (.ifCond .eq 15, 3) := by decide +kernel
theorem dX9_isSent_87 : decode cX9_isSent 87 = .ok (.aload_n 0, 1) := by decide +kernel
theorem dX9_isSent_88 : decode cX9_isSent 88 = .ok (.getfield 7, 3) := by decide +kernel
theorem dX9_isSent_91 : decode cX9_isSent 91 = .ok (.bipush 101, 2) := by decide +kernel
theorem dX9_isSent_93 : decode cX9_isSent 93 = .ok (.laload, 1) := by decide +kernel
theorem dX9_isSent_94 : decode cX9_isSent 94 = .ok (.lconst 1, 1) := by decide +kernel
theorem dX9_isSent_95 : decode cX9_isSent 95 = .ok (.lcmp, 1) := by decide +kernel
theorem dX9_isSent_96 : decode cX9_isSent 96 = .ok (.ifCond .ne 7, 3) := by decide +kernel
theorem dX9_isSent_99 : decode cX9_isSent 99 = .ok (.iconst 1, 1) := by decide +kernel
theorem dX9_isSent_100 : decode cX9_isSent 100 = .ok (.goto 4, 3) := by decide +kernel
theorem dX9_isSent_103 : decode cX9_isSent 103 = .ok (.iconst 0, 1) := by decide +kernel
theorem dX9_isSent_104 : decode cX9_isSent 104 = .ok (.istore 7, 2) := by decide +kernel
theorem dX9_isSent_106 : decode cX9_isSent 106 = .ok (.aload_n 0, 1) := by decide +kernel
theorem dX9_isSent_107 : decode cX9_isSent 107 = .ok (.getfield 7, 3) := by decide +kernel
theorem dX9_isSent_110 : decode cX9_isSent 110 = .ok (.iload_n 1, 1) := by decide +kernel
theorem dX9_isSent_111 : decode cX9_isSent 111 = .ok (.bipush 10, 2) := by decide +kernel
theorem dX9_isSent_113 : decode cX9_isSent 113 = .ok (.iadd, 1) := by decide +kernel
theorem dX9_isSent_114 : decode cX9_isSent 114 = .ok (.laload, 1) := by decide +kernel
theorem dX9_isSent_115 : decode cX9_isSent 115 = .ok (.lconst 0, 1) := by decide +kernel
theorem dX9_isSent_116 : decode cX9_isSent 116 = .ok (.lcmp, 1) := by decide +kernel
theorem dX9_isSent_117 : decode cX9_isSent 117 = .ok (.ifCond .eq 7, 3) := by decide +kernel
theorem dX9_isSent_120 : decode cX9_isSent 120 = .ok (.iload_n 3, 1) := by decide +kernel
theorem dX9_isSent_121 : decode cX9_isSent 121 = .ok (.ifCond .ne 7, 3) := by decide +kernel
theorem dX9_isSent_124 : decode cX9_isSent 124 = .ok (.iconst 1, 1) := by decide +kernel
theorem dX9_isSent_125 : decode cX9_isSent 125 = .ok (.goto 4, 3) := by decide +kernel
theorem dX9_isSent_128 : decode cX9_isSent 128 = .ok (.iconst 0, 1) := by decide +kernel
theorem dX9_isSent_129 : decode cX9_isSent 129 = .ok (.istore 8, 2) := by decide +kernel
theorem dX9_isSent_131 : decode cX9_isSent 131 = .ok (.aload_n 0, 1) := by decide +kernel
theorem dX9_isSent_132 : decode cX9_isSent 132 = .ok (.getfield 7, 3) := by decide +kernel
theorem dX9_isSent_135 : decode cX9_isSent 135 = .ok (.iload_n 1, 1) := by decide +kernel
theorem dX9_isSent_136 : decode cX9_isSent 136 = .ok (.bipush 11, 2) := by decide +kernel
theorem dX9_isSent_138 : decode cX9_isSent 138 = .ok (.iadd, 1) := by decide +kernel
theorem dX9_isSent_139 : decode cX9_isSent 139 = .ok (.laload, 1) := by decide +kernel
theorem dX9_isSent_140 : decode cX9_isSent 140 = .ok (.lconst 0, 1) := by decide +kernel
theorem dX9_isSent_141 : decode cX9_isSent 141 = .ok (.lcmp, 1) := by decide +kernel
theorem dX9_isSent_142 : decode cX9_isSent 142 = .ok (.ifCond .eq 28, 3) := by decide +kernel
theorem dX9_isSent_145 : decode cX9_isSent 145 = .ok (.aload_n 0, 1) := by decide +kernel
theorem dX9_isSent_146 : decode cX9_isSent 146 = .ok (.invokevirtual 162, 3) := by decide +kernel
theorem dX9_isSent_149 : decode cX9_isSent 149 = .ok (.ifCond .ne 21, 3) := by decide +kernel
theorem dX9_isSent_152 : decode cX9_isSent 152 = .ok (.aload_n 0, 1) := by decide +kernel
theorem dX9_isSent_153 : decode cX9_isSent 153 = .ok (.getfield 7, 3) := by decide +kernel
theorem dX9_isSent_156 : decode cX9_isSent 156 = .ok (.iload_n 1, 1) := by decide +kernel
theorem dX9_isSent_157 : decode cX9_isSent 157 = .ok (.bipush 11, 2) := by decide +kernel
theorem dX9_isSent_159 : decode cX9_isSent 159 = .ok (.iadd, 1) := by decide +kernel
theorem dX9_isSent_160 : decode cX9_isSent 160 = .ok (.laload, 1) := by decide +kernel
theorem dX9_isSent_161 : decode cX9_isSent 161 = .ok (.lconst 1, 1) := by decide +kernel
theorem dX9_isSent_162 : decode cX9_isSent 162 = .ok (.lcmp, 1) := by decide +kernel
theorem dX9_isSent_163 : decode cX9_isSent 163 = .ok (.ifCond .ne 11, 3) := by decide +kernel
theorem dX9_isSent_166 : decode cX9_isSent 166 = .ok (.iload_n 2, 1) := by decide +kernel
theorem dX9_isSent_167 : decode cX9_isSent 167 = .ok (.ifCond .eq 7, 3) := by decide +kernel
theorem dX9_isSent_170 : decode cX9_isSent 170 = .ok (.iconst 1, 1) := by decide +kernel
theorem dX9_isSent_171 : decode cX9_isSent 171 = .ok (.goto 4, 3) := by decide +kernel
theorem dX9_isSent_174 : decode cX9_isSent 174 = .ok (.iconst 0, 1) := by decide +kernel
theorem dX9_isSent_175 : decode cX9_isSent 175 = .ok (.istore 9, 2) := by decide +kernel
theorem dX9_isSent_177 : decode cX9_isSent 177 = .ok (.iload 6, 2) := by decide +kernel
theorem dX9_isSent_179 : decode cX9_isSent 179 = .ok (.ifCond .eq 53, 3) := by decide +kernel
theorem dX9_isSent_182 : decode cX9_isSent 182 = .ok (.iload 7, 2) := by decide +kernel
theorem dX9_isSent_184 : decode cX9_isSent 184 = .ok (.ifCond .eq 48, 3) := by decide +kernel
theorem dX9_isSent_187 : decode cX9_isSent 187 = .ok (.iload 8, 2) := by decide +kernel
theorem dX9_isSent_189 : decode cX9_isSent 189 = .ok (.ifCond .eq 43, 3) := by decide +kernel
theorem dX9_isSent_192 : decode cX9_isSent 192 = .ok (.iload 9, 2) := by decide +kernel
theorem dX9_isSent_194 : decode cX9_isSent 194 = .ok (.ifCond .eq 38, 3) := by decide +kernel
theorem dX9_isSent_197 : decode cX9_isSent 197 = .ok (.aload_n 0, 1) := by decide +kernel
theorem dX9_isSent_198 : decode cX9_isSent 198 = .ok (.sipush 134, 3) := by decide +kernel
theorem dX9_isSent_201 : decode cX9_isSent 201 = .ok (.aload_n 0, 1) := by decide +kernel
theorem dX9_isSent_202 : decode cX9_isSent 202 = .ok (.getfield 7, 3) := by decide +kernel
theorem dX9_isSent_205 : decode cX9_isSent 205 = .ok (.bipush 103, 2) := by decide +kernel
theorem dX9_isSent_207 : decode cX9_isSent 207 = .ok (.laload, 1) := by decide +kernel
theorem dX9_isSent_208 : decode cX9_isSent 208 = .ok (.l2i, 1) := by decide +kernel
theorem dX9_isSent_209 : decode cX9_isSent 209 = .ok (.iload_n 1, 1) := by decide +kernel
theorem dX9_isSent_210 : decode cX9_isSent 210 = .ok (.bipush 92, 2) := by decide +kernel
theorem dX9_isSent_212 : decode cX9_isSent 212 = .ok (.iadd, 1) := by decide +kernel
theorem dX9_isSent_213 : decode cX9_isSent 213 = .ok (.aload_n 0, 1) := by decide +kernel
theorem dX9_isSent_214 : decode cX9_isSent 214 = .ok (.getfield 7, 3) := by decide +kernel
theorem dX9_isSent_217 : decode cX9_isSent 217 = .ok (.iload_n 1, 1) := by decide +kernel
theorem dX9_isSent_218 : decode cX9_isSent 218 = .ok (.iconst 3, 1) := by decide +kernel
theorem dX9_isSent_219 : decode cX9_isSent 219 = .ok (.iadd, 1) := by decide +kernel
theorem dX9_isSent_220 : decode cX9_isSent 220 = .ok (.laload, 1) := by decide +kernel
theorem dX9_isSent_221 : decode cX9_isSent 221 = .ok (.l2i, 1) := by decide +kernel
theorem dX9_isSent_222 : decode cX9_isSent 222 = .ok (.invokevirtual 330, 3) := by decide +kernel
theorem dX9_isSent_225 : decode cX9_isSent 225 = .ok (.ifCond .eq 7, 3) := by decide +kernel
theorem dX9_isSent_228 : decode cX9_isSent 228 = .ok (.iconst 1, 1) := by decide +kernel
theorem dX9_isSent_229 : decode cX9_isSent 229 = .ok (.goto 4, 3) := by decide +kernel
theorem dX9_isSent_232 : decode cX9_isSent 232 = .ok (.iconst 0, 1) := by decide +kernel
theorem dX9_isSent_233 : decode cX9_isSent 233 = .ok (.ireturn, 1) := by decide +kernel
theorem dX9_isSentAhead_0 : decode cX9_isSentAhead 0 = .ok (.aload_n 0, 1) := by decide +kernel
theorem dX9_isSentAhead_1 : decode cX9_isSentAhead 1 = .ok (.getfield 7, 3) := by decide +kernel
theorem dX9_isSentAhead_4 : decode cX9_isSentAhead 4 = .ok (.iload_n 1, 1) := by decide +kernel
theorem dX9_isSentAhead_5 : decode cX9_isSentAhead 5 = .ok (.iconst 3, 1) := by decide +kernel
theorem dX9_isSentAhead_6 : decode cX9_isSentAhead 6 = .ok (.iadd, 1) := by decide +kernel
theorem dX9_isSentAhead_7 : decode cX9_isSentAhead 7 = .ok (.laload, 1) := by decide +kernel
theorem dX9_isSentAhead_8 : decode cX9_isSentAhead 8 = .ok (.aload_n 0, 1) := by decide +kernel
theorem dX9_isSentAhead_9 : decode cX9_isSentAhead 9 = .ok (.getfield 7, 3) := by decide +kernel
theorem dX9_isSentAhead_12 : decode cX9_isSentAhead 12 = .ok (.iload_n 2, 1) := by decide +kernel
theorem dX9_isSentAhead_13 : decode cX9_isSentAhead 13 = .ok (.iconst 3, 1) := by decide +kernel
theorem dX9_isSentAhead_14 : decode cX9_isSentAhead 14 = .ok (.iadd, 1) := by decide +kernel
theorem dX9_isSentAhead_15 : decode cX9_isSentAhead 15 = .ok (.laload, 1) := by decide +kernel
theorem dX9_isSentAhead_16 : decode cX9_isSentAhead 16 = .ok (.lcmp, 1) := by decide +kernel
theorem dX9_isSentAhead_17 : decode cX9_isSentAhead 17 = .ok (.ifCond .gt 45, 3) := by decide +kernel
theorem dX9_isSentAhead_20 : decode cX9_isSentAhead 20 = .ok (.aload_n 0, 1) := by decide +kernel
theorem dX9_isSentAhead_21 : decode cX9_isSentAhead 21 = .ok (.getfield 7, 3) := by decide +kernel
theorem dX9_isSentAhead_24 : decode cX9_isSentAhead 24 = .ok (.iload_n 1, 1) := by decide +kernel
theorem dX9_isSentAhead_25 : decode cX9_isSentAhead 25 = .ok (.iconst 3, 1) := by decide +kernel
theorem dX9_isSentAhead_26 : decode cX9_isSentAhead 26 = .ok (.iadd, 1) := by decide +kernel
theorem dX9_isSentAhead_27 : decode cX9_isSentAhead 27 = .ok (.laload, 1) := by decide +kernel
theorem dX9_isSentAhead_28 : decode cX9_isSentAhead 28 = .ok (.aload_n 0, 1) := by decide +kernel
theorem dX9_isSentAhead_29 : decode cX9_isSentAhead 29 = .ok (.getfield 7, 3) := by decide +kernel
theorem dX9_isSentAhead_32 : decode cX9_isSentAhead 32 = .ok (.iload_n 2, 1) := by decide +kernel
theorem dX9_isSentAhead_33 : decode cX9_isSentAhead 33 = .ok (.iconst 3, 1) := by decide +kernel
theorem dX9_isSentAhead_34 : decode cX9_isSentAhead 34 = .ok (.iadd, 1) := by decide +kernel
theorem dX9_isSentAhead_35 : decode cX9_isSentAhead 35 = .ok (.laload, 1) := by decide +kernel
theorem dX9_isSentAhead_36 : decode cX9_isSentAhead 36 = .ok (.lcmp, 1) := by decide +kernel
theorem dX9_isSentAhead_37 : decode cX9_isSentAhead 37 = .ok (.ifCond .ne 29, 3) := by decide +kernel
theorem dX9_isSentAhead_40 : decode cX9_isSentAhead 40 = .ok (.aload_n 0, 1) := by decide +kernel
theorem dX9_isSentAhead_41 : decode cX9_isSentAhead 41 = .ok (.getfield 7, 3) := by decide +kernel
theorem dX9_isSentAhead_44 : decode cX9_isSentAhead 44 = .ok (.iload_n 1, 1) := by decide +kernel
theorem dX9_isSentAhead_45 : decode cX9_isSentAhead 45 = .ok (.bipush 7, 2) := by decide +kernel
theorem dX9_isSentAhead_47 : decode cX9_isSentAhead 47 = .ok (.iadd, 1) := by decide +kernel
theorem dX9_isSentAhead_48 : decode cX9_isSentAhead 48 = .ok (.laload, 1) := by decide +kernel
theorem dX9_isSentAhead_49 : decode cX9_isSentAhead 49 = .ok (.aload_n 0, 1) := by decide +kernel
theorem dX9_isSentAhead_50 : decode cX9_isSentAhead 50 = .ok (.getfield 7, 3) := by decide +kernel
theorem dX9_isSentAhead_53 : decode cX9_isSentAhead 53 = .ok (.iload_n 2, 1) := by decide +kernel
theorem dX9_isSentAhead_54 : decode cX9_isSentAhead 54 = .ok (.bipush 7, 2) := by decide +kernel
theorem dX9_isSentAhead_56 : decode cX9_isSentAhead 56 = .ok (.iadd, 1) := by decide +kernel
theorem dX9_isSentAhead_57 : decode cX9_isSentAhead 57 = .ok (.laload, 1) := by decide +kernel
theorem dX9_isSentAhead_58 : decode cX9_isSentAhead 58 = .ok (.lcmp, 1) := by decide +kernel
theorem dX9_isSentAhead_59 : decode cX9_isSentAhead 59 = .ok (.ifCond .ge 7, 3) := by decide +kernel
theorem dX9_isSentAhead_62 : decode cX9_isSentAhead 62 = .ok (.iconst 1, 1) := by decide +kernel
theorem dX9_isSentAhead_63 : decode cX9_isSentAhead 63 = .ok (.goto 4, 3) := by decide +kernel
theorem dX9_isSentAhead_66 : decode cX9_isSentAhead 66 = .ok (.iconst 0, 1) := by decide +kernel
theorem dX9_isSentAhead_67 : decode cX9_isSentAhead 67 = .ok (.ireturn, 1) := by decide +kernel
theorem dX9_sentBehind_0 : decode cX9_sentBehind 0 = .ok (.iconst (-1), 1) := by decide +kernel
theorem dX9_sentBehind_1 : decode cX9_sentBehind 1 = .ok (.istore 4, 2) := by decide +kernel
theorem dX9_sentBehind_3 : decode cX9_sentBehind 3 = .ok (.iconst 0, 1) := by decide +kernel
theorem dX9_sentBehind_4 : decode cX9_sentBehind 4 = .ok (.istore 5, 2) := by decide +kernel
theorem dX9_sentBehind_6 : decode cX9_sentBehind 6 = .ok (.iload 5, 2) := by decide +kernel
theorem dX9_sentBehind_8 : decode cX9_sentBehind 8 = .ok (.i2l, 1) := by decide +kernel
theorem dX9_sentBehind_9 : decode cX9_sentBehind 9 = .ok (.aload_n 0, 1) := by decide +kernel
theorem dX9_sentBehind_10 : decode cX9_sentBehind 10 = .ok (.getfield 7, 3) := by decide +kernel
theorem dX9_sentBehind_13 : decode cX9_sentBehind 13 = .ok (.iconst 5, 1) := by decide +kernel
theorem dX9_sentBehind_14 : decode cX9_sentBehind 14 = .ok (.laload, 1) := by decide +kernel
theorem dX9_sentBehind_15 : decode cX9_sentBehind 15 = .ok (.lcmp, 1) := by decide +kernel
theorem dX9_sentBehind_16 : decode cX9_sentBehind 16 = .ok (.ifCond .ge 86, 3) := by decide +kernel
theorem dX9_sentBehind_19 : decode cX9_sentBehind 19 = .ok (.aload_n 0, 1) := by decide +kernel
theorem dX9_sentBehind_20 : decode cX9_sentBehind 20 = .ok (.iload 5, 2) := by decide +kernel
theorem dX9_sentBehind_22 : decode cX9_sentBehind 22 = .ok (.invokestatic 324, 3) := by decide +kernel
theorem dX9_sentBehind_25 : decode cX9_sentBehind 25 = .ok (.iload_n 2, 1) := by decide +kernel
theorem dX9_sentBehind_26 : decode cX9_sentBehind 26 = .ok (.iload_n 3, 1) := by decide +kernel
theorem dX9_sentBehind_27 : decode cX9_sentBehind 27 = .ok (.invokevirtual 387, 3) := by decide +kernel
theorem dX9_sentBehind_30 : decode cX9_sentBehind 30 = .ok (.ifCond .eq 27, 3) := by decide +kernel
theorem dX9_sentBehind_33 : decode cX9_sentBehind 33 = .ok (.iload_n 1, 1) := by decide +kernel
theorem dX9_sentBehind_34 : decode cX9_sentBehind 34 = .ok (.ifCond .lt 19, 3) := by decide +kernel
theorem dX9_sentBehind_37 : decode cX9_sentBehind 37 = .ok (.aload_n 0, 1) := by decide +kernel
theorem dX9_sentBehind_38 : decode cX9_sentBehind 38 = .ok (.iload_n 1, 1) := by decide +kernel
theorem dX9_sentBehind_39 : decode cX9_sentBehind 39 = .ok (.invokestatic 324, 3) := by decide +kernel
theorem dX9_sentBehind_42 : decode cX9_sentBehind 42 = .ok (.iload 5, 2) := by decide +kernel
theorem dX9_sentBehind_44 : decode cX9_sentBehind 44 = .ok (.invokestatic 324, 3) := by decide +kernel
theorem dX9_sentBehind_47 : decode cX9_sentBehind 47 = .ok (.invokevirtual 391, 3) := by decide +kernel
theorem dX9_sentBehind_50 : decode cX9_sentBehind 50 = .ok (.ifCond .eq 7, 3) := by decide +kernel
theorem dX9_sentBehind_53 : decode cX9_sentBehind 53 = .ok (.iconst 1, 1) := by decide +kernel
theorem dX9_sentBehind_54 : decode cX9_sentBehind 54 = .ok (.goto 4, 3) := by decide +kernel
theorem dX9_sentBehind_57 : decode cX9_sentBehind 57 = .ok (.iconst 0, 1) := by decide +kernel
theorem dX9_sentBehind_58 : decode cX9_sentBehind 58 = .ok (.istore 6, 2) := by decide +kernel
theorem dX9_sentBehind_60 : decode cX9_sentBehind 60 = .ok (.iload 6, 2) := by decide +kernel
theorem dX9_sentBehind_62 : decode cX9_sentBehind 62 = .ok (.ifCond .eq 30, 3) := by decide +kernel
theorem dX9_sentBehind_65 : decode cX9_sentBehind 65 = .ok (.iload 4, 2) := by decide +kernel
theorem dX9_sentBehind_67 : decode cX9_sentBehind 67 = .ok (.ifCond .lt 20, 3) := by decide +kernel
theorem dX9_sentBehind_70 : decode cX9_sentBehind 70 = .ok (.aload_n 0, 1) := by decide +kernel
theorem dX9_sentBehind_71 : decode cX9_sentBehind 71 = .ok (.iload 5, 2) := by decide +kernel
theorem dX9_sentBehind_73 : decode cX9_sentBehind 73 = .ok (.invokestatic 324, 3) := by decide +kernel
theorem dX9_sentBehind_76 : decode cX9_sentBehind 76 = .ok (.iload 4, 2) := by decide +kernel
theorem dX9_sentBehind_78 : decode cX9_sentBehind 78 = .ok (.invokestatic 324, 3) := by decide +kernel
theorem dX9_sentBehind_81 : decode cX9_sentBehind 81 = .ok (.invokevirtual 391, 3) := by decide +kernel
theorem dX9_sentBehind_84 : decode cX9_sentBehind 84 = .ok (.ifCond .eq 8, 3) := by decide +kernel
theorem dX9_sentBehind_87 : decode cX9_sentBehind 87 = .ok (.iload 5, 2) := by decide +kernel
theorem dX9_sentBehind_89 : decode cX9_sentBehind 89 = .ok (.goto 5, 3) := by decide +kernel
theorem dX9_sentBehind_92 : decode cX9_sentBehind 92 = .ok (.iload 4, 2) := by decide +kernel
theorem dX9_sentBehind_94 : decode cX9_sentBehind 94 = .ok (.istore 4, 2) := by decide +kernel
theorem dX9_sentBehind_96 : decode cX9_sentBehind 96 = .ok (.iinc 5 1, 3) := by decide +kernel
theorem dX9_sentBehind_99 : decode cX9_sentBehind 99 = .ok (.goto (-93), 3) := by decide +kernel
theorem dX9_sentBehind_102 : decode cX9_sentBehind 102 = .ok (.iload 4, 2) := by decide +kernel
theorem dX9_sentBehind_104 : decode cX9_sentBehind 104 = .ok (.ireturn, 1) := by decide +kernel
theorem dX9_writes_0 : decode cX9_writes 0 = .ok (.aload_n 0, 1) := by decide +kernel
theorem dX9_writes_1 : decode cX9_writes 1 = .ok (.iload_n 1, 1) := by decide +kernel
theorem dX9_writes_2 : decode cX9_writes 2 = .ok (.iload_n 2, 1) := by decide +kernel
theorem dX9_writes_3 : decode cX9_writes 3 = .ok (.sipush 380, 3) := by decide +kernel
theorem dX9_writes_6 : decode cX9_writes 6 = .ok (.aload_n 0, 1) := by decide +kernel
theorem dX9_writes_7 : decode cX9_writes 7 = .ok (.getfield 7, 3) := by decide +kernel
theorem dX9_writes_10 : decode cX9_writes 10 = .ok (.bipush 8, 2) := by decide +kernel
theorem dX9_writes_12 : decode cX9_writes 12 = .ok (.laload, 1) := by decide +kernel
theorem dX9_writes_13 : decode cX9_writes 13 = .ok (.l2i, 1) := by decide +kernel
theorem dX9_writes_14 : decode cX9_writes 14 = .ok (.iadd, 1) := by decide +kernel
theorem dX9_writes_15 : decode cX9_writes 15 = .ok (.invokevirtual 148, 3) := by decide +kernel
theorem dX9_writes_18 : decode cX9_writes 18 = .ok (.aload_n 0, 1) := by decide +kernel
theorem dX9_writes_19 : decode cX9_writes 19 = .ok (.getfield 7, 3) := by decide +kernel
theorem dX9_writes_22 : decode cX9_writes 22 = .ok (.bipush 8, 2) := by decide +kernel
theorem dX9_writes_24 : decode cX9_writes 24 = .ok (.dup2, 1) := by decide +kernel
theorem dX9_writes_25 : decode cX9_writes 25 = .ok (.laload, 1) := by decide +kernel
theorem dX9_writes_26 : decode cX9_writes 26 = .ok (.iload_n 2, 1) := by decide +kernel
theorem dX9_writes_27 : decode cX9_writes 27 = .ok (.i2l, 1) := by decide +kernel
theorem dX9_writes_28 : decode cX9_writes 28 = .ok (.ladd, 1) := by decide +kernel
theorem dX9_writes_29 : decode cX9_writes 29 = .ok (.lastore, 1) := by decide +kernel
theorem dX9_writes_30 : decode cX9_writes 30 = .ok (.return_, 1) := by decide +kernel
theorem dX9_writesSign_0 : decode cX9_writesSign 0 = .ok (.aload_n 0, 1) := by decide +kernel
theorem dX9_writesSign_1 : decode cX9_writesSign 1 = .ok (.getfield 7, 3) := by decide +kernel
theorem dX9_writesSign_4 : decode cX9_writesSign 4 = .ok (.sipush 380, 3) := by decide +kernel
theorem dX9_writesSign_7 : decode cX9_writesSign 7 = .ok (.aload_n 0, 1) := by decide +kernel
theorem dX9_writesSign_8 : decode cX9_writesSign 8 = .ok (.getfield 7, 3) := by decide +kernel
theorem dX9_writesSign_11 : decode cX9_writesSign 11 = .ok (.bipush 8, 2) := by decide +kernel
theorem dX9_writesSign_13 : decode cX9_writesSign 13 = .ok (.laload, 1) := by decide +kernel
theorem dX9_writesSign_14 : decode cX9_writesSign 14 = .ok (.l2i, 1) := by decide +kernel
theorem dX9_writesSign_15 : decode cX9_writesSign 15 = .ok (.iadd, 1) := by decide +kernel
theorem dX9_writesSign_16 : decode cX9_writesSign 16 = .ok (.iload_n 1, 1) := by decide +kernel
theorem dX9_writesSign_17 : decode cX9_writesSign 17 = .ok (.i2l, 1) := by decide +kernel
theorem dX9_writesSign_18 : decode cX9_writesSign 18 = .ok (.lastore, 1) := by decide +kernel
theorem dX9_writesSign_19 : decode cX9_writesSign 19 = .ok (.aload_n 0, 1) := by decide +kernel
theorem dX9_writesSign_20 : decode cX9_writesSign 20 = .ok (.getfield 7, 3) := by decide +kernel
theorem dX9_writesSign_23 : decode cX9_writesSign 23 = .ok (.bipush 8, 2) := by decide +kernel
theorem dX9_writesSign_25 : decode cX9_writesSign 25 = .ok (.dup2, 1) := by decide +kernel
theorem dX9_writesSign_26 : decode cX9_writesSign 26 = .ok (.laload, 1) := by decide +kernel
theorem dX9_writesSign_27 : decode cX9_writesSign 27 = .ok (.lconst 1, 1) := by decide +kernel
theorem dX9_writesSign_28 : decode cX9_writesSign 28 = .ok (.ladd, 1) := by decide +kernel
theorem dX9_writesSign_29 : decode cX9_writesSign 29 = .ok (.lastore, 1) := by decide +kernel
theorem dX9_writesSign_30 : decode cX9_writesSign 30 = .ok (.return_, 1) := by decide +kernel
theorem dX9_send_0 : decode cX9_send 0 = .ok (.aload_n 0, 1) := by decide +kernel
theorem dX9_send_1 : decode cX9_send 1 = .ok (.iconst 0, 1) := by decide +kernel
theorem dX9_send_2 : decode cX9_send 2 = .ok (.putfield 82, 3) := by decide +kernel
theorem dX9_send_5 : decode cX9_send 5 = .ok (.aload_n 0, 1) := by decide +kernel
theorem dX9_send_6 : decode cX9_send 6 = .ok (.getfield 7, 3) := by decide +kernel
theorem dX9_send_9 : decode cX9_send 9 = .ok (.bipush 100, 2) := by decide +kernel
theorem dX9_send_11 : decode cX9_send 11 = .ok (.laload, 1) := by decide +kernel
theorem dX9_send_12 : decode cX9_send 12 = .ok (.lconst 0, 1) := by decide +kernel
theorem dX9_send_13 : decode cX9_send 13 = .ok (.lcmp, 1) := by decide +kernel
theorem dX9_send_14 : decode cX9_send 14 = .ok (.ifCond .ne 9, 3) := by decide +kernel
theorem dX9_send_17 : decode cX9_send 17 = .ok (.aload_n 0, 1) := by decide +kernel
theorem dX9_send_18 : decode cX9_send 18 = .ok (.iconst 1, 1) := by decide +kernel
theorem dX9_send_19 : decode cX9_send 19 = .ok (.invokevirtual 166, 3) := by decide +kernel
theorem dX9_send_22 : decode cX9_send 22 = .ok (.ireturn, 1) := by decide +kernel
theorem dX9_send_23 : decode cX9_send 23 = .ok (.aload_n 0, 1) := by decide +kernel
theorem dX9_send_24 : decode cX9_send 24 = .ok (.getfield 7, 3) := by decide +kernel
theorem dX9_send_27 : decode cX9_send 27 = .ok (.bipush 8, 2) := by decide +kernel
theorem dX9_send_29 : decode cX9_send 29 = .ok (.lconst 0, 1) := by decide +kernel
theorem dX9_send_30 : decode cX9_send 30 = .ok (.lastore, 1) := by decide +kernel
theorem dX9_send_31 : decode cX9_send 31 = .ok (.iconst 0, 1) := by decide +kernel
theorem dX9_send_32 : decode cX9_send 32 = .ok (.istore_n 3, 1) := by decide +kernel
theorem dX9_send_33 : decode cX9_send 33 = .ok (.aload_n 0, 1) := by decide +kernel
theorem dX9_send_34 : decode cX9_send 34 = .ok (.iconst (-1), 1) := by decide +kernel
theorem dX9_send_35 : decode cX9_send 35 = .ok (.iload_n 1, 1) := by decide +kernel
theorem dX9_send_36 : decode cX9_send 36 = .ok (.iload_n 2, 1) := by decide +kernel
theorem dX9_send_37 : decode cX9_send 37 = .ok (.invokevirtual 394, 3) := by decide +kernel
theorem dX9_send_40 : decode cX9_send 40 = .ok (.istore 4, 2) := by decide +kernel
theorem dX9_send_42 : decode cX9_send 42 = .ok (.iload 4, 2) := by decide +kernel
theorem dX9_send_44 : decode cX9_send 44 = .ok (.ifCond .lt 100, 3) := by decide +kernel
theorem dX9_send_47 : decode cX9_send 47 = .ok (.iload_n 3, 1) := by decide +kernel
theorem dX9_send_48 : decode cX9_send 48 = .ok (.ifCond .le 15, 3) := by decide +kernel
theorem dX9_send_51 : decode cX9_send 51 = .ok (.aload_n 0, 1) := by decide +kernel
theorem dX9_send_52 : decode cX9_send 52 = .ok (.bipush 59, 2) := by decide +kernel
theorem dX9_send_54 : decode cX9_send 54 = .ok (.invokevirtual 398, 3) := by decide +kernel
theorem dX9_send_57 : decode cX9_send 57 = .ok (.aload_n 0, 1) := by decide +kernel
theorem dX9_send_58 : decode cX9_send 58 = .ok (.bipush 32, 2) := by decide +kernel
theorem dX9_send_60 : decode cX9_send 60 = .ok (.invokevirtual 398, 3) := by decide +kernel
theorem dX9_send_63 : decode cX9_send 63 = .ok (.iload 4, 2) := by decide +kernel
theorem dX9_send_65 : decode cX9_send 65 = .ok (.invokestatic 324, 3) := by decide +kernel
theorem dX9_send_68 : decode cX9_send 68 = .ok (.istore 5, 2) := by decide +kernel
theorem dX9_send_70 : decode cX9_send 70 = .ok (.aload_n 0, 1) := by decide +kernel
theorem dX9_send_71 : decode cX9_send 71 = .ok (.iload 5, 2) := by decide +kernel
theorem dX9_send_73 : decode cX9_send 73 = .ok (.bipush 14, 2) := by decide +kernel
theorem dX9_send_75 : decode cX9_send 75 = .ok (.iadd, 1) := by decide +kernel
theorem dX9_send_76 : decode cX9_send 76 = .ok (.aload_n 0, 1) := by decide +kernel
theorem dX9_send_77 : decode cX9_send 77 = .ok (.getfield 7, 3) := by decide +kernel
theorem dX9_send_80 : decode cX9_send 80 = .ok (.iload 5, 2) := by decide +kernel
theorem dX9_send_82 : decode cX9_send 82 = .ok (.laload, 1) := by decide +kernel
theorem dX9_send_83 : decode cX9_send 83 = .ok (.l2i, 1) := by decide +kernel
theorem dX9_send_84 : decode cX9_send 84 = .ok (.invokevirtual 401, 3) := by decide +kernel
theorem dX9_send_87 : decode cX9_send 87 = .ok (.aload_n 0, 1) := by decide +kernel
theorem dX9_send_88 : decode cX9_send 88 = .ok (.bipush 61, 2) := by decide +kernel
theorem dX9_send_90 : decode cX9_send 90 = .ok (.invokevirtual 398, 3) := by decide +kernel
theorem dX9_send_93 : decode cX9_send 93 = .ok (.aload_n 0, 1) := by decide +kernel
theorem dX9_send_94 : decode cX9_send 94 = .ok (.iload 5, 2) := by decide +kernel
theorem dX9_send_96 : decode cX9_send 96 = .ok (.bipush 30, 2) := by decide +kernel
theorem dX9_send_98 : decode cX9_send 98 = .ok (.iadd, 1) := by decide +kernel
theorem dX9_send_99 : decode cX9_send 99 = .ok (.aload_n 0, 1) := by decide +kernel
theorem dX9_send_100 : decode cX9_send 100 = .ok (.getfield 7, 3) := by decide +kernel
theorem dX9_send_103 : decode cX9_send 103 = .ok (.iload 5, 2) := by decide +kernel
theorem dX9_send_105 : decode cX9_send 105 = .ok (.iconst 1, 1) := by decide +kernel
theorem dX9_send_106 : decode cX9_send 106 = .ok (.iadd, 1) := by decide +kernel
theorem dX9_send_107 : decode cX9_send 107 = .ok (.laload, 1) := by decide +kernel
theorem dX9_send_108 : decode cX9_send 108 = .ok (.l2i, 1) := by decide +kernel
theorem dX9_send_109 : decode cX9_send 109 = .ok (.invokevirtual 401, 3) := by decide +kernel
theorem dX9_send_112 : decode cX9_send 112 = .ok (.aload_n 0, 1) := by decide +kernel
theorem dX9_send_113 : decode cX9_send 113 = .ok (.getfield 7, 3) := by decide +kernel
theorem dX9_send_116 : decode cX9_send 116 = .ok (.iload 5, 2) := by decide +kernel
theorem dX9_send_118 : decode cX9_send 118 = .ok (.bipush 6, 2) := by decide +kernel
theorem dX9_send_120 : decode cX9_send 120 = .ok (.iadd, 1) := by decide +kernel
theorem dX9_send_121 : decode cX9_send 121 = .ok (.aload_n 0, 1) := by decide +kernel
theorem dX9_send_122 : decode cX9_send 122 = .ok (.getfield 7, 3) := by decide +kernel
theorem dX9_send_125 : decode cX9_send 125 = .ok (.iconst 0, 1) := by decide +kernel
theorem dX9_send_126 : decode cX9_send 126 = .ok (.laload, 1) := by decide +kernel
theorem dX9_send_127 : decode cX9_send 127 = .ok (.lastore, 1) := by decide +kernel
theorem dX9_send_128 : decode cX9_send 128 = .ok (.iinc 3 1, 3) := by decide +kernel
theorem dX9_send_131 : decode cX9_send 131 = .ok (.aload_n 0, 1) := by decide +kernel
theorem dX9_send_132 : decode cX9_send 132 = .ok (.iload 4, 2) := by decide +kernel
theorem dX9_send_134 : decode cX9_send 134 = .ok (.iload_n 1, 1) := by decide +kernel
theorem dX9_send_135 : decode cX9_send 135 = .ok (.iload_n 2, 1) := by decide +kernel
theorem dX9_send_136 : decode cX9_send 136 = .ok (.invokevirtual 394, 3) := by decide +kernel
theorem dX9_send_139 : decode cX9_send 139 = .ok (.istore 4, 2) := by decide +kernel
theorem dX9_send_141 : decode cX9_send 141 = .ok (.goto (-99), 3) := by decide +kernel
theorem dX9_send_144 : decode cX9_send 144 = .ok (.iload_n 3, 1) := by decide +kernel
theorem dX9_send_145 : decode cX9_send 145 = .ok (.ireturn, 1) := by decide +kernel
theorem dX9_headerChar_0 : decode cX9_headerChar 0 = .ok (.aload_n 0, 1) := by decide +kernel
theorem dX9_headerChar_1 : decode cX9_headerChar 1 = .ok (.iconst 0, 1) := by decide +kernel
theorem dX9_headerChar_2 : decode cX9_headerChar 2 = .ok (.putfield 82, 3) := by decide +kernel
theorem dX9_headerChar_5 : decode cX9_headerChar 5 = .ok (.iload_n 1, 1) := by decide +kernel
theorem dX9_headerChar_6 : decode cX9_headerChar 6 = .ok (.ifCond .ge 9, 3) := by decide +kernel
theorem dX9_headerChar_9 : decode cX9_headerChar 9 = .ok (.aload_n 0, 1) := by decide +kernel
theorem dX9_headerChar_10 : decode cX9_headerChar 10 = .ok (.iconst 1, 1) := by decide +kernel
theorem dX9_headerChar_11 : decode cX9_headerChar 11 = .ok (.invokevirtual 166, 3) := by decide +kernel
theorem dX9_headerChar_14 : decode cX9_headerChar 14 = .ok (.ireturn, 1) := by decide +kernel
theorem dX9_headerChar_15 : decode cX9_headerChar 15 = .ok (.iload_n 1, 1) := by decide +kernel
theorem dX9_headerChar_16 : decode cX9_headerChar 16 = .ok (.i2l, 1) := by decide +kernel
theorem dX9_headerChar_17 : decode cX9_headerChar 17 = .ok (.aload_n 0, 1) := by decide +kernel
theorem dX9_headerChar_18 : decode cX9_headerChar 18 = .ok (.getfield 7, 3) := by decide +kernel
theorem dX9_headerChar_21 : decode cX9_headerChar 21 = .ok (.bipush 8, 2) := by decide +kernel
theorem dX9_headerChar_23 : decode cX9_headerChar 23 = .ok (.laload, 1) := by decide +kernel
theorem dX9_headerChar_24 : decode cX9_headerChar 24 = .ok (.lcmp, 1) := by decide +kernel
theorem dX9_headerChar_25 : decode cX9_headerChar 25 = .ok (.ifCond .ge 17, 3) := by decide +kernel
theorem dX9_headerChar_28 : decode cX9_headerChar 28 = .ok (.aload_n 0, 1) := by decide +kernel
theorem dX9_headerChar_29 : decode cX9_headerChar 29 = .ok (.getfield 7, 3) := by decide +kernel
theorem dX9_headerChar_32 : decode cX9_headerChar 32 = .ok (.sipush 380, 3) := by decide +kernel
theorem dX9_headerChar_35 : decode cX9_headerChar 35 = .ok (.iload_n 1, 1) := by decide +kernel
theorem dX9_headerChar_36 : decode cX9_headerChar 36 = .ok (.iadd, 1) := by decide +kernel
theorem dX9_headerChar_37 : decode cX9_headerChar 37 = .ok (.laload, 1) := by decide +kernel
theorem dX9_headerChar_38 : decode cX9_headerChar 38 = .ok (.l2i, 1) := by decide +kernel
theorem dX9_headerChar_39 : decode cX9_headerChar 39 = .ok (.goto 4, 3) := by decide +kernel
theorem dX9_headerChar_42 : decode cX9_headerChar 42 = .ok (.iconst (-1), 1) := by decide +kernel
theorem dX9_headerChar_43 : decode cX9_headerChar 43 = .ok (.ireturn, 1) := by decide +kernel
theorem dX9_isAhead_0 : decode cX9_isAhead 0 = .ok (.aload_n 0, 1) := by decide +kernel
theorem dX9_isAhead_1 : decode cX9_isAhead 1 = .ok (.iload_n 1, 1) := by decide +kernel
theorem dX9_isAhead_2 : decode cX9_isAhead 2 = .ok (.bipush 62, 2) := by decide +kernel
theorem dX9_isAhead_4 : decode cX9_isAhead 4 = .ok (.iadd, 1) := by decide +kernel
theorem dX9_isAhead_5 : decode cX9_isAhead 5 = .ok (.aload_n 0, 1) := by decide +kernel
theorem dX9_isAhead_6 : decode cX9_isAhead 6 = .ok (.getfield 7, 3) := by decide +kernel
theorem dX9_isAhead_9 : decode cX9_isAhead 9 = .ok (.iload_n 1, 1) := by decide +kernel
theorem dX9_isAhead_10 : decode cX9_isAhead 10 = .ok (.iconst 2, 1) := by decide +kernel
theorem dX9_isAhead_11 : decode cX9_isAhead 11 = .ok (.iadd, 1) := by decide +kernel
theorem dX9_isAhead_12 : decode cX9_isAhead 12 = .ok (.laload, 1) := by decide +kernel
theorem dX9_isAhead_13 : decode cX9_isAhead 13 = .ok (.l2i, 1) := by decide +kernel
theorem dX9_isAhead_14 : decode cX9_isAhead 14 = .ok (.iload_n 2, 1) := by decide +kernel
theorem dX9_isAhead_15 : decode cX9_isAhead 15 = .ok (.bipush 62, 2) := by decide +kernel
theorem dX9_isAhead_17 : decode cX9_isAhead 17 = .ok (.iadd, 1) := by decide +kernel
theorem dX9_isAhead_18 : decode cX9_isAhead 18 = .ok (.aload_n 0, 1) := by decide +kernel
theorem dX9_isAhead_19 : decode cX9_isAhead 19 = .ok (.getfield 7, 3) := by decide +kernel
theorem dX9_isAhead_22 : decode cX9_isAhead 22 = .ok (.iload_n 2, 1) := by decide +kernel
theorem dX9_isAhead_23 : decode cX9_isAhead 23 = .ok (.iconst 2, 1) := by decide +kernel
theorem dX9_isAhead_24 : decode cX9_isAhead 24 = .ok (.iadd, 1) := by decide +kernel
theorem dX9_isAhead_25 : decode cX9_isAhead 25 = .ok (.laload, 1) := by decide +kernel
theorem dX9_isAhead_26 : decode cX9_isAhead 26 = .ok (.l2i, 1) := by decide +kernel
theorem dX9_isAhead_27 : decode cX9_isAhead 27 = .ok (.invokevirtual 404, 3) := by decide +kernel
theorem dX9_isAhead_30 : decode cX9_isAhead 30 = .ok (.istore_n 3, 1) := by decide +kernel
theorem dX9_isAhead_31 : decode cX9_isAhead 31 = .ok (.iload_n 3, 1) := by decide +kernel
theorem dX9_isAhead_32 : decode cX9_isAhead 32 = .ok (.ifCond .eq 7, 3) := by decide +kernel
theorem dX9_isAhead_35 : decode cX9_isAhead 35 = .ok (.iload_n 3, 1) := by decide +kernel
theorem dX9_isAhead_36 : decode cX9_isAhead 36 = .ok (.goto 33, 3) := by decide +kernel
theorem dX9_isAhead_39 : decode cX9_isAhead 39 = .ok (.aload_n 0, 1) := by decide +kernel
theorem dX9_isAhead_40 : decode cX9_isAhead 40 = .ok (.iload_n 1, 1) := by decide +kernel
theorem dX9_isAhead_41 : decode cX9_isAhead 41 = .ok (.bipush 92, 2) := by decide +kernel
theorem dX9_isAhead_43 : decode cX9_isAhead 43 = .ok (.iadd, 1) := by decide +kernel
theorem dX9_isAhead_44 : decode cX9_isAhead 44 = .ok (.aload_n 0, 1) := by decide +kernel
theorem dX9_isAhead_45 : decode cX9_isAhead 45 = .ok (.getfield 7, 3) := by decide +kernel
theorem dX9_isAhead_48 : decode cX9_isAhead 48 = .ok (.iload_n 1, 1) := by decide +kernel
theorem dX9_isAhead_49 : decode cX9_isAhead 49 = .ok (.iconst 3, 1) := by decide +kernel
theorem dX9_isAhead_50 : decode cX9_isAhead 50 = .ok (.iadd, 1) := by decide +kernel
theorem dX9_isAhead_51 : decode cX9_isAhead 51 = .ok (.laload, 1) := by decide +kernel
theorem dX9_isAhead_52 : decode cX9_isAhead 52 = .ok (.l2i, 1) := by decide +kernel
theorem dX9_isAhead_53 : decode cX9_isAhead 53 = .ok (.iload_n 2, 1) := by decide +kernel
theorem dX9_isAhead_54 : decode cX9_isAhead 54 = .ok (.bipush 92, 2) := by decide +kernel
theorem dX9_isAhead_56 : decode cX9_isAhead 56 = .ok (.iadd, 1) := by decide +kernel
theorem dX9_isAhead_57 : decode cX9_isAhead 57 = .ok (.aload_n 0, 1) := by decide +kernel
theorem dX9_isAhead_58 : decode cX9_isAhead 58 = .ok (.getfield 7, 3) := by decide +kernel
theorem dX9_isAhead_61 : decode cX9_isAhead 61 = .ok (.iload_n 2, 1) := by decide +kernel
theorem dX9_isAhead_62 : decode cX9_isAhead 62 = .ok (.iconst 3, 1) := by decide +kernel
theorem dX9_isAhead_63 : decode cX9_isAhead 63 = .ok (.iadd, 1) := by decide +kernel
theorem dX9_isAhead_64 : decode cX9_isAhead 64 = .ok (.laload, 1) := by decide +kernel
theorem dX9_isAhead_65 : decode cX9_isAhead 65 = .ok (.l2i, 1) := by decide +kernel
theorem dX9_isAhead_66 : decode cX9_isAhead 66 = .ok (.invokevirtual 129, 3) := by decide +kernel
theorem dX9_isAhead_69 : decode cX9_isAhead 69 = .ok (.istore_n 3, 1) := by decide +kernel
theorem dX9_isAhead_70 : decode cX9_isAhead 70 = .ok (.iload_n 3, 1) := by decide +kernel
theorem dX9_isAhead_71 : decode cX9_isAhead 71 = .ok (.ifCond .eq 7, 3) := by decide +kernel
theorem dX9_isAhead_74 : decode cX9_isAhead 74 = .ok (.iload_n 3, 1) := by decide +kernel
theorem dX9_isAhead_75 : decode cX9_isAhead 75 = .ok (.goto 29, 3) := by decide +kernel
theorem dX9_isAhead_78 : decode cX9_isAhead 78 = .ok (.aload_n 0, 1) := by decide +kernel
theorem dX9_isAhead_79 : decode cX9_isAhead 79 = .ok (.iload_n 1, 1) := by decide +kernel
theorem dX9_isAhead_80 : decode cX9_isAhead 80 = .ok (.bipush 14, 2) := by decide +kernel
theorem dX9_isAhead_82 : decode cX9_isAhead 82 = .ok (.iadd, 1) := by decide +kernel
theorem dX9_isAhead_83 : decode cX9_isAhead 83 = .ok (.aload_n 0, 1) := by decide +kernel
theorem dX9_isAhead_84 : decode cX9_isAhead 84 = .ok (.getfield 7, 3) := by decide +kernel
theorem dX9_isAhead_87 : decode cX9_isAhead 87 = .ok (.iload_n 1, 1) := by decide +kernel
theorem dX9_isAhead_88 : decode cX9_isAhead 88 = .ok (.laload, 1) := by decide +kernel
theorem dX9_isAhead_89 : decode cX9_isAhead 89 = .ok (.l2i, 1) := by decide +kernel
theorem dX9_isAhead_90 : decode cX9_isAhead 90 = .ok (.iload_n 2, 1) := by decide +kernel
theorem dX9_isAhead_91 : decode cX9_isAhead 91 = .ok (.bipush 14, 2) := by decide +kernel
theorem dX9_isAhead_93 : decode cX9_isAhead 93 = .ok (.iadd, 1) := by decide +kernel
theorem dX9_isAhead_94 : decode cX9_isAhead 94 = .ok (.aload_n 0, 1) := by decide +kernel
theorem dX9_isAhead_95 : decode cX9_isAhead 95 = .ok (.getfield 7, 3) := by decide +kernel
theorem dX9_isAhead_98 : decode cX9_isAhead 98 = .ok (.iload_n 2, 1) := by decide +kernel
theorem dX9_isAhead_99 : decode cX9_isAhead 99 = .ok (.laload, 1) := by decide +kernel
theorem dX9_isAhead_100 : decode cX9_isAhead 100 = .ok (.l2i, 1) := by decide +kernel
theorem dX9_isAhead_101 : decode cX9_isAhead 101 = .ok (.invokevirtual 129, 3) := by decide +kernel
theorem dX9_isAhead_104 : decode cX9_isAhead 104 = .ok (.istore_n 3, 1) := by decide +kernel
theorem dX9_isAhead_105 : decode cX9_isAhead 105 = .ok (.iload_n 3, 1) := by decide +kernel
theorem dX9_isAhead_106 : decode cX9_isAhead 106 = .ok (.ifCond .lt 29, 3) := by decide +kernel
theorem dX9_isAhead_109 : decode cX9_isAhead 109 = .ok (.iload_n 3, 1) := by decide +kernel
theorem dX9_isAhead_110 : decode cX9_isAhead 110 = .ok (.ifCond .ne 29, 3) := by decide +kernel
theorem dX9_isAhead_113 : decode cX9_isAhead 113 = .ok (.aload_n 0, 1) := by decide +kernel
theorem dX9_isAhead_114 : decode cX9_isAhead 114 = .ok (.getfield 7, 3) := by decide +kernel
theorem dX9_isAhead_117 : decode cX9_isAhead 117 = .ok (.iload_n 1, 1) := by decide +kernel
theorem dX9_isAhead_118 : decode cX9_isAhead 118 = .ok (.bipush 8, 2) := by decide +kernel
theorem dX9_isAhead_120 : decode cX9_isAhead 120 = .ok (.iadd, 1) := by decide +kernel
theorem dX9_isAhead_121 : decode cX9_isAhead 121 = .ok (.laload, 1) := by decide +kernel
theorem dX9_isAhead_122 : decode cX9_isAhead 122 = .ok (.aload_n 0, 1) := by decide +kernel
theorem dX9_isAhead_123 : decode cX9_isAhead 123 = .ok (.getfield 7, 3) := by decide +kernel
theorem dX9_isAhead_126 : decode cX9_isAhead 126 = .ok (.iload_n 2, 1) := by decide +kernel
theorem dX9_isAhead_127 : decode cX9_isAhead 127 = .ok (.bipush 8, 2) := by decide +kernel
theorem dX9_isAhead_129 : decode cX9_isAhead 129 = .ok (.iadd, 1) := by decide +kernel
theorem dX9_isAhead_130 : decode cX9_isAhead 130 = .ok (.laload, 1) := by decide +kernel
theorem dX9_isAhead_131 : decode cX9_isAhead 131 = .ok (.lcmp, 1) := by decide +kernel
theorem dX9_isAhead_132 : decode cX9_isAhead 132 = .ok (.ifCond .ge 7, 3) := by decide +kernel
theorem dX9_isAhead_135 : decode cX9_isAhead 135 = .ok (.iconst 1, 1) := by decide +kernel
theorem dX9_isAhead_136 : decode cX9_isAhead 136 = .ok (.goto 4, 3) := by decide +kernel
theorem dX9_isAhead_139 : decode cX9_isAhead 139 = .ok (.iconst 0, 1) := by decide +kernel
theorem dX9_isAhead_140 : decode cX9_isAhead 140 = .ok (.ireturn, 1) := by decide +kernel
theorem dX9_indexOf_0 : decode cX9_indexOf 0 = .ok (.iconst 0, 1) := by decide +kernel
theorem dX9_indexOf_1 : decode cX9_indexOf 1 = .ok (.istore_n 2, 1) := by decide +kernel
theorem dX9_indexOf_2 : decode cX9_indexOf 2 = .ok (.iconst 0, 1) := by decide +kernel
theorem dX9_indexOf_3 : decode cX9_indexOf 3 = .ok (.istore_n 3, 1) := by decide +kernel
theorem dX9_indexOf_4 : decode cX9_indexOf 4 = .ok (.iload_n 3, 1) := by decide +kernel
theorem dX9_indexOf_5 : decode cX9_indexOf 5 = .ok (.i2l, 1) := by decide +kernel
theorem dX9_indexOf_6 : decode cX9_indexOf 6 = .ok (.aload_n 0, 1) := by decide +kernel
theorem dX9_indexOf_7 : decode cX9_indexOf 7 = .ok (.getfield 7, 3) := by decide +kernel
theorem dX9_indexOf_10 : decode cX9_indexOf 10 = .ok (.iconst 5, 1) := by decide +kernel
theorem dX9_indexOf_11 : decode cX9_indexOf 11 = .ok (.laload, 1) := by decide +kernel
theorem dX9_indexOf_12 : decode cX9_indexOf 12 = .ok (.lcmp, 1) := by decide +kernel
theorem dX9_indexOf_13 : decode cX9_indexOf 13 = .ok (.ifCond .ge 37, 3) := by decide +kernel
theorem dX9_indexOf_16 : decode cX9_indexOf 16 = .ok (.iload_n 2, 1) := by decide +kernel
theorem dX9_indexOf_17 : decode cX9_indexOf 17 = .ok (.iload_n 3, 1) := by decide +kernel
theorem dX9_indexOf_18 : decode cX9_indexOf 18 = .ok (.iload_n 1, 1) := by decide +kernel
theorem dX9_indexOf_19 : decode cX9_indexOf 19 = .ok (.if_icmp .eq 22, 3) := by decide +kernel
theorem dX9_indexOf_22 : decode cX9_indexOf 22 = .ok (.aload_n 0, 1) := by decide +kernel
theorem dX9_indexOf_23 : decode cX9_indexOf 23 = .ok (.iload_n 3, 1) := by decide +kernel
theorem dX9_indexOf_24 : decode cX9_indexOf 24 = .ok (.invokestatic 324, 3) := by decide +kernel
theorem dX9_indexOf_27 : decode cX9_indexOf 27 = .ok (.iload_n 1, 1) := by decide +kernel
theorem dX9_indexOf_28 : decode cX9_indexOf 28 = .ok (.invokestatic 324, 3) := by decide +kernel
theorem dX9_indexOf_31 : decode cX9_indexOf 31 = .ok (.invokevirtual 407, 3) := by decide +kernel
theorem dX9_indexOf_34 : decode cX9_indexOf 34 = .ok (.ifCond .eq 7, 3) := by decide +kernel
theorem dX9_indexOf_37 : decode cX9_indexOf 37 = .ok (.iconst 1, 1) := by decide +kernel
theorem dX9_indexOf_38 : decode cX9_indexOf 38 = .ok (.goto 4, 3) := by decide +kernel
theorem dX9_indexOf_41 : decode cX9_indexOf 41 = .ok (.iconst 0, 1) := by decide +kernel
theorem dX9_indexOf_42 : decode cX9_indexOf 42 = .ok (.iadd, 1) := by decide +kernel
theorem dX9_indexOf_43 : decode cX9_indexOf 43 = .ok (.istore_n 2, 1) := by decide +kernel
theorem dX9_indexOf_44 : decode cX9_indexOf 44 = .ok (.iinc 3 1, 3) := by decide +kernel
theorem dX9_indexOf_47 : decode cX9_indexOf 47 = .ok (.goto (-43), 3) := by decide +kernel
theorem dX9_indexOf_50 : decode cX9_indexOf 50 = .ok (.iload_n 2, 1) := by decide +kernel
theorem dX9_indexOf_51 : decode cX9_indexOf 51 = .ok (.ireturn, 1) := by decide +kernel
theorem dX9_placeOf_0 : decode cX9_placeOf 0 = .ok (.iconst 0, 1) := by decide +kernel
theorem dX9_placeOf_1 : decode cX9_placeOf 1 = .ok (.istore_n 2, 1) := by decide +kernel
theorem dX9_placeOf_2 : decode cX9_placeOf 2 = .ok (.iload_n 2, 1) := by decide +kernel
theorem dX9_placeOf_3 : decode cX9_placeOf 3 = .ok (.i2l, 1) := by decide +kernel
theorem dX9_placeOf_4 : decode cX9_placeOf 4 = .ok (.aload_n 0, 1) := by decide +kernel
theorem dX9_placeOf_5 : decode cX9_placeOf 5 = .ok (.getfield 7, 3) := by decide +kernel
theorem dX9_placeOf_8 : decode cX9_placeOf 8 = .ok (.iconst 5, 1) := by decide +kernel
theorem dX9_placeOf_9 : decode cX9_placeOf 9 = .ok (.laload, 1) := by decide +kernel
theorem dX9_placeOf_10 : decode cX9_placeOf 10 = .ok (.lcmp, 1) := by decide +kernel
theorem dX9_placeOf_11 : decode cX9_placeOf 11 = .ok (.ifCond .ge 20, 3) := by decide +kernel
theorem dX9_placeOf_14 : decode cX9_placeOf 14 = .ok (.aload_n 0, 1) := by decide +kernel
theorem dX9_placeOf_15 : decode cX9_placeOf 15 = .ok (.iload_n 2, 1) := by decide +kernel
theorem dX9_placeOf_16 : decode cX9_placeOf 16 = .ok (.invokevirtual 410, 3) := by decide +kernel
theorem dX9_placeOf_19 : decode cX9_placeOf 19 = .ok (.iload_n 1, 1) := by decide +kernel
theorem dX9_placeOf_20 : decode cX9_placeOf 20 = .ok (.if_icmp .ne 5, 3) := by decide +kernel
theorem dX9_placeOf_23 : decode cX9_placeOf 23 = .ok (.iload_n 2, 1) := by decide +kernel
theorem dX9_placeOf_24 : decode cX9_placeOf 24 = .ok (.ireturn, 1) := by decide +kernel
theorem dX9_placeOf_25 : decode cX9_placeOf 25 = .ok (.iinc 2 1, 3) := by decide +kernel
theorem dX9_placeOf_28 : decode cX9_placeOf 28 = .ok (.goto (-26), 3) := by decide +kernel
theorem dX9_placeOf_31 : decode cX9_placeOf 31 = .ok (.iconst (-1), 1) := by decide +kernel
theorem dX9_placeOf_32 : decode cX9_placeOf 32 = .ok (.ireturn, 1) := by decide +kernel
theorem dX9_lacks_0 : decode cX9_lacks 0 = .ok (.aload_n 0, 1) := by decide +kernel
theorem dX9_lacks_1 : decode cX9_lacks 1 = .ok (.iload_n 1, 1) := by decide +kernel
theorem dX9_lacks_2 : decode cX9_lacks 2 = .ok (.i2l, 1) := by decide +kernel
theorem dX9_lacks_3 : decode cX9_lacks 3 = .ok (.lconst 0, 1) := by decide +kernel
theorem dX9_lacks_4 : decode cX9_lacks 4 = .ok (.aload_n 0, 1) := by decide +kernel
theorem dX9_lacks_5 : decode cX9_lacks 5 = .ok (.getfield 7, 3) := by decide +kernel
theorem dX9_lacks_8 : decode cX9_lacks 8 = .ok (.iconst 5, 1) := by decide +kernel
theorem dX9_lacks_9 : decode cX9_lacks 9 = .ok (.laload, 1) := by decide +kernel
theorem dX9_lacks_10 : decode cX9_lacks 10 = .ok (.lconst 1, 1) := by decide +kernel
theorem dX9_lacks_11 : decode cX9_lacks 11 = .ok (.lsub, 1) := by decide +kernel
theorem dX9_lacks_12 : decode cX9_lacks 12 = .ok (.invokestatic 90, 3) := by decide +kernel
theorem dX9_lacks_15 : decode cX9_lacks 15 = .ok (.ifCond .eq 7, 3) := by decide +kernel
theorem dX9_lacks_18 : decode cX9_lacks 18 = .ok (.iconst 0, 1) := by decide +kernel
theorem dX9_lacks_19 : decode cX9_lacks 19 = .ok (.goto 4, 3) := by decide +kernel
theorem dX9_lacks_22 : decode cX9_lacks 22 = .ok (.iconst 1, 1) := by decide +kernel
theorem dX9_lacks_23 : decode cX9_lacks 23 = .ok (.putfield 82, 3) := by decide +kernel
theorem dX9_lacks_26 : decode cX9_lacks 26 = .ok (.aload_n 0, 1) := by decide +kernel
theorem dX9_lacks_27 : decode cX9_lacks 27 = .ok (.getfield 82, 3) := by decide +kernel
theorem dX9_lacks_30 : decode cX9_lacks 30 = .ok (.iconst 1, 1) := by decide +kernel
theorem dX9_lacks_31 : decode cX9_lacks 31 = .ok (.if_icmp .ne 7, 3) := by decide +kernel
theorem dX9_lacks_34 : decode cX9_lacks 34 = .ok (.iconst 1, 1) := by decide +kernel
theorem dX9_lacks_35 : decode cX9_lacks 35 = .ok (.goto 4, 3) := by decide +kernel
theorem dX9_lacks_38 : decode cX9_lacks 38 = .ok (.iconst 0, 1) := by decide +kernel
theorem dX9_lacks_39 : decode cX9_lacks 39 = .ok (.ireturn, 1) := by decide +kernel
theorem dX9_wouldSend_0 : decode cX9_wouldSend 0 = .ok (.aload_n 0, 1) := by decide +kernel
theorem dX9_wouldSend_1 : decode cX9_wouldSend 1 = .ok (.aload_n 0, 1) := by decide +kernel
theorem dX9_wouldSend_2 : decode cX9_wouldSend 2 = .ok (.getfield 7, 3) := by decide +kernel
theorem dX9_wouldSend_5 : decode cX9_wouldSend 5 = .ok (.bipush 100, 2) := by decide +kernel
theorem dX9_wouldSend_7 : decode cX9_wouldSend 7 = .ok (.laload, 1) := by decide +kernel
theorem dX9_wouldSend_8 : decode cX9_wouldSend 8 = .ok (.lconst 0, 1) := by decide +kernel
theorem dX9_wouldSend_9 : decode cX9_wouldSend 9 = .ok (.lcmp, 1) := by decide +kernel
theorem dX9_wouldSend_10 : decode cX9_wouldSend 10 = .ok (.ifCond .ne 7, 3) := by decide +kernel
theorem dX9_wouldSend_13 : decode cX9_wouldSend 13 = .ok (.iconst 1, 1) := by decide +kernel
theorem dX9_wouldSend_14 : decode cX9_wouldSend 14 = .ok (.goto 25, 3) := by decide +kernel
theorem dX9_wouldSend_17 : decode cX9_wouldSend 17 = .ok (.iload_n 1, 1) := by decide +kernel
theorem dX9_wouldSend_18 : decode cX9_wouldSend 18 = .ok (.i2l, 1) := by decide +kernel
theorem dX9_wouldSend_19 : decode cX9_wouldSend 19 = .ok (.lconst 0, 1) := by decide +kernel
theorem dX9_wouldSend_20 : decode cX9_wouldSend 20 = .ok (.aload_n 0, 1) := by decide +kernel
theorem dX9_wouldSend_21 : decode cX9_wouldSend 21 = .ok (.getfield 7, 3) := by decide +kernel
theorem dX9_wouldSend_24 : decode cX9_wouldSend 24 = .ok (.iconst 5, 1) := by decide +kernel
theorem dX9_wouldSend_25 : decode cX9_wouldSend 25 = .ok (.laload, 1) := by decide +kernel
theorem dX9_wouldSend_26 : decode cX9_wouldSend 26 = .ok (.lconst 1, 1) := by decide +kernel
theorem dX9_wouldSend_27 : decode cX9_wouldSend 27 = .ok (.lsub, 1) := by decide +kernel
theorem dX9_wouldSend_28 : decode cX9_wouldSend 28 = .ok (.invokestatic 90, 3) := by decide +kernel
theorem dX9_wouldSend_31 : decode cX9_wouldSend 31 = .ok (.ifCond .eq 7, 3) := by decide +kernel
theorem dX9_wouldSend_34 : decode cX9_wouldSend 34 = .ok (.iconst 0, 1) := by decide +kernel
theorem dX9_wouldSend_35 : decode cX9_wouldSend 35 = .ok (.goto 4, 3) := by decide +kernel
theorem dX9_wouldSend_38 : decode cX9_wouldSend 38 = .ok (.iconst 2, 1) := by decide +kernel
theorem dX9_wouldSend_39 : decode cX9_wouldSend 39 = .ok (.putfield 82, 3) := by decide +kernel
theorem dX9_wouldSend_42 : decode cX9_wouldSend 42 = .ok (.aload_n 0, 1) := by decide +kernel
theorem dX9_wouldSend_43 : decode cX9_wouldSend 43 = .ok (.getfield 82, 3) := by decide +kernel
theorem dX9_wouldSend_46 : decode cX9_wouldSend 46 = .ok (.ifCond .ne 24, 3) := by decide +kernel
theorem dX9_wouldSend_49 : decode cX9_wouldSend 49 = .ok (.aload_n 0, 1) := by decide +kernel
theorem dX9_wouldSend_50 : decode cX9_wouldSend 50 = .ok (.aload_n 0, 1) := by decide +kernel
theorem dX9_wouldSend_51 : decode cX9_wouldSend 51 = .ok (.iload_n 1, 1) := by decide +kernel
theorem dX9_wouldSend_52 : decode cX9_wouldSend 52 = .ok (.invokevirtual 413, 3) := by decide +kernel
theorem dX9_wouldSend_55 : decode cX9_wouldSend 55 = .ok (.invokestatic 324, 3) := by decide +kernel
theorem dX9_wouldSend_58 : decode cX9_wouldSend 58 = .ok (.iload_n 2, 1) := by decide +kernel
theorem dX9_wouldSend_59 : decode cX9_wouldSend 59 = .ok (.iload_n 3, 1) := by decide +kernel
theorem dX9_wouldSend_60 : decode cX9_wouldSend 60 = .ok (.invokevirtual 387, 3) := by decide +kernel
theorem dX9_wouldSend_63 : decode cX9_wouldSend 63 = .ok (.ifCond .eq 7, 3) := by decide +kernel
theorem dX9_wouldSend_66 : decode cX9_wouldSend 66 = .ok (.iconst 1, 1) := by decide +kernel
theorem dX9_wouldSend_67 : decode cX9_wouldSend 67 = .ok (.goto 4, 3) := by decide +kernel
theorem dX9_wouldSend_70 : decode cX9_wouldSend 70 = .ok (.iconst 0, 1) := by decide +kernel
theorem dX9_wouldSend_71 : decode cX9_wouldSend 71 = .ok (.ireturn, 1) := by decide +kernel
theorem dX9_cookies_0 : decode cX9_cookies 0 = .ok (.aload_n 0, 1) := by decide +kernel
theorem dX9_cookies_1 : decode cX9_cookies 1 = .ok (.iconst 0, 1) := by decide +kernel
theorem dX9_cookies_2 : decode cX9_cookies 2 = .ok (.putfield 82, 3) := by decide +kernel
theorem dX9_cookies_5 : decode cX9_cookies 5 = .ok (.aload_n 0, 1) := by decide +kernel
theorem dX9_cookies_6 : decode cX9_cookies 6 = .ok (.getfield 7, 3) := by decide +kernel
theorem dX9_cookies_9 : decode cX9_cookies 9 = .ok (.iconst 5, 1) := by decide +kernel
theorem dX9_cookies_10 : decode cX9_cookies 10 = .ok (.laload, 1) := by decide +kernel
theorem dX9_cookies_11 : decode cX9_cookies 11 = .ok (.l2i, 1) := by decide +kernel
theorem dX9_cookies_12 : decode cX9_cookies 12 = .ok (.ireturn, 1) := by decide +kernel
theorem dX9_signOf_0 : decode cX9_signOf 0 = .ok (.aload_n 0, 1) := by decide +kernel
theorem dX9_signOf_1 : decode cX9_signOf 1 = .ok (.iload_n 1, 1) := by decide +kernel
theorem dX9_signOf_2 : decode cX9_signOf 2 = .ok (.invokevirtual 416, 3) := by decide +kernel
theorem dX9_signOf_5 : decode cX9_signOf 5 = .ok (.ifCond .ne 7, 3) := by decide +kernel
theorem dX9_signOf_8 : decode cX9_signOf 8 = .ok (.iload_n 2, 1) := by decide +kernel
theorem dX9_signOf_9 : decode cX9_signOf 9 = .ok (.ifCond .ge 9, 3) := by decide +kernel
theorem dX9_signOf_12 : decode cX9_signOf 12 = .ok (.aload_n 0, 1) := by decide +kernel
theorem dX9_signOf_13 : decode cX9_signOf 13 = .ok (.iconst 1, 1) := by decide +kernel
theorem dX9_signOf_14 : decode cX9_signOf 14 = .ok (.invokevirtual 166, 3) := by decide +kernel
theorem dX9_signOf_17 : decode cX9_signOf 17 = .ok (.ireturn, 1) := by decide +kernel
theorem dX9_signOf_18 : decode cX9_signOf 18 = .ok (.aload_n 0, 1) := by decide +kernel
theorem dX9_signOf_19 : decode cX9_signOf 19 = .ok (.iload_n 1, 1) := by decide +kernel
theorem dX9_signOf_20 : decode cX9_signOf 20 = .ok (.invokevirtual 413, 3) := by decide +kernel
theorem dX9_signOf_23 : decode cX9_signOf 23 = .ok (.invokestatic 324, 3) := by decide +kernel
theorem dX9_signOf_26 : decode cX9_signOf 26 = .ok (.istore 5, 2) := by decide +kernel
theorem dX9_signOf_28 : decode cX9_signOf 28 = .ok (.iload_n 2, 1) := by decide +kernel
theorem dX9_signOf_29 : decode cX9_signOf 29 = .ok (.i2l, 1) := by decide +kernel
theorem dX9_signOf_30 : decode cX9_signOf 30 = .ok (.aload_n 0, 1) := by decide +kernel
theorem dX9_signOf_31 : decode cX9_signOf 31 = .ok (.getfield 7, 3) := by decide +kernel
theorem dX9_signOf_34 : decode cX9_signOf 34 = .ok (.iload 5, 2) := by decide +kernel
theorem dX9_signOf_36 : decode cX9_signOf 36 = .ok (.iload_n 3, 1) := by decide +kernel
theorem dX9_signOf_37 : decode cX9_signOf 37 = .ok (.iadd, 1) := by decide +kernel
theorem dX9_signOf_38 : decode cX9_signOf 38 = .ok (.laload, 1) := by decide +kernel
theorem dX9_signOf_39 : decode cX9_signOf 39 = .ok (.lcmp, 1) := by decide +kernel
theorem dX9_signOf_40 : decode cX9_signOf 40 = .ok (.ifCond .ge 19, 3) := by decide +kernel
theorem dX9_signOf_43 : decode cX9_signOf 43 = .ok (.aload_n 0, 1) := by decide +kernel
theorem dX9_signOf_44 : decode cX9_signOf 44 = .ok (.getfield 7, 3) := by decide +kernel
theorem dX9_signOf_47 : decode cX9_signOf 47 = .ok (.iload 5, 2) := by decide +kernel
theorem dX9_signOf_49 : decode cX9_signOf 49 = .ok (.iload 4, 2) := by decide +kernel
theorem dX9_signOf_51 : decode cX9_signOf 51 = .ok (.iadd, 1) := by decide +kernel
theorem dX9_signOf_52 : decode cX9_signOf 52 = .ok (.iload_n 2, 1) := by decide +kernel
theorem dX9_signOf_53 : decode cX9_signOf 53 = .ok (.iadd, 1) := by decide +kernel
theorem dX9_signOf_54 : decode cX9_signOf 54 = .ok (.laload, 1) := by decide +kernel
theorem dX9_signOf_55 : decode cX9_signOf 55 = .ok (.l2i, 1) := by decide +kernel
theorem dX9_signOf_56 : decode cX9_signOf 56 = .ok (.goto 4, 3) := by decide +kernel
theorem dX9_signOf_59 : decode cX9_signOf 59 = .ok (.iconst (-1), 1) := by decide +kernel
theorem dX9_signOf_60 : decode cX9_signOf 60 = .ok (.ireturn, 1) := by decide +kernel
theorem dX9_nameChar_0 : decode cX9_nameChar 0 = .ok (.aload_n 0, 1) := by decide +kernel
theorem dX9_nameChar_1 : decode cX9_nameChar 1 = .ok (.iload_n 1, 1) := by decide +kernel
theorem dX9_nameChar_2 : decode cX9_nameChar 2 = .ok (.iload_n 2, 1) := by decide +kernel
theorem dX9_nameChar_3 : decode cX9_nameChar 3 = .ok (.iconst 0, 1) := by decide +kernel
theorem dX9_nameChar_4 : decode cX9_nameChar 4 = .ok (.bipush 14, 2) := by decide +kernel
theorem dX9_nameChar_6 : decode cX9_nameChar 6 = .ok (.invokevirtual 419, 3) := by decide +kernel
theorem dX9_nameChar_9 : decode cX9_nameChar 9 = .ok (.ireturn, 1) := by decide +kernel
theorem dX9_valueChar_0 : decode cX9_valueChar 0 = .ok (.aload_n 0, 1) := by decide +kernel
theorem dX9_valueChar_1 : decode cX9_valueChar 1 = .ok (.iload_n 1, 1) := by decide +kernel
theorem dX9_valueChar_2 : decode cX9_valueChar 2 = .ok (.iload_n 2, 1) := by decide +kernel
theorem dX9_valueChar_3 : decode cX9_valueChar 3 = .ok (.iconst 1, 1) := by decide +kernel
theorem dX9_valueChar_4 : decode cX9_valueChar 4 = .ok (.bipush 30, 2) := by decide +kernel
theorem dX9_valueChar_6 : decode cX9_valueChar 6 = .ok (.invokevirtual 419, 3) := by decide +kernel
theorem dX9_valueChar_9 : decode cX9_valueChar 9 = .ok (.ireturn, 1) := by decide +kernel
theorem dX9_domainChar_0 : decode cX9_domainChar 0 = .ok (.aload_n 0, 1) := by decide +kernel
theorem dX9_domainChar_1 : decode cX9_domainChar 1 = .ok (.iload_n 1, 1) := by decide +kernel
theorem dX9_domainChar_2 : decode cX9_domainChar 2 = .ok (.iload_n 2, 1) := by decide +kernel
theorem dX9_domainChar_3 : decode cX9_domainChar 3 = .ok (.iconst 2, 1) := by decide +kernel
theorem dX9_domainChar_4 : decode cX9_domainChar 4 = .ok (.bipush 62, 2) := by decide +kernel
theorem dX9_domainChar_6 : decode cX9_domainChar 6 = .ok (.invokevirtual 419, 3) := by decide +kernel
theorem dX9_domainChar_9 : decode cX9_domainChar 9 = .ok (.ireturn, 1) := by decide +kernel
theorem dX9_pathChar_0 : decode cX9_pathChar 0 = .ok (.aload_n 0, 1) := by decide +kernel
theorem dX9_pathChar_1 : decode cX9_pathChar 1 = .ok (.iload_n 1, 1) := by decide +kernel
theorem dX9_pathChar_2 : decode cX9_pathChar 2 = .ok (.iload_n 2, 1) := by decide +kernel
theorem dX9_pathChar_3 : decode cX9_pathChar 3 = .ok (.iconst 3, 1) := by decide +kernel
theorem dX9_pathChar_4 : decode cX9_pathChar 4 = .ok (.bipush 92, 2) := by decide +kernel
theorem dX9_pathChar_6 : decode cX9_pathChar 6 = .ok (.invokevirtual 419, 3) := by decide +kernel
theorem dX9_pathChar_9 : decode cX9_pathChar 9 = .ok (.ireturn, 1) := by decide +kernel
theorem dX9_told_0 : decode cX9_told 0 = .ok (.aload_n 0, 1) := by decide +kernel
theorem dX9_told_1 : decode cX9_told 1 = .ok (.iload_n 1, 1) := by decide +kernel
theorem dX9_told_2 : decode cX9_told 2 = .ok (.invokevirtual 416, 3) := by decide +kernel
theorem dX9_told_5 : decode cX9_told 5 = .ok (.ifCond .eq 7, 3) := by decide +kernel
theorem dX9_told_8 : decode cX9_told 8 = .ok (.lconst 0, 1) := by decide +kernel
theorem dX9_told_9 : decode cX9_told 9 = .ok (.goto 18, 3) := by decide +kernel
theorem dX9_told_12 : decode cX9_told 12 = .ok (.aload_n 0, 1) := by decide +kernel
theorem dX9_told_13 : decode cX9_told 13 = .ok (.getfield 7, 3) := by decide +kernel
theorem dX9_told_16 : decode cX9_told 16 = .ok (.aload_n 0, 1) := by decide +kernel
theorem dX9_told_17 : decode cX9_told 17 = .ok (.iload_n 1, 1) := by decide +kernel
theorem dX9_told_18 : decode cX9_told 18 = .ok (.invokevirtual 413, 3) := by decide +kernel
theorem dX9_told_21 : decode cX9_told 21 = .ok (.invokestatic 324, 3) := by decide +kernel
theorem dX9_told_24 : decode cX9_told 24 = .ok (.iload_n 2, 1) := by decide +kernel
theorem dX9_told_25 : decode cX9_told 25 = .ok (.iadd, 1) := by decide +kernel
theorem dX9_told_26 : decode cX9_told 26 = .ok (.laload, 1) := by decide +kernel
theorem dX9_told_27 : decode cX9_told 27 = .ok (.lreturn, 1) := by decide +kernel
theorem dX9_expiry_0 : decode cX9_expiry 0 = .ok (.aload_n 0, 1) := by decide +kernel
theorem dX9_expiry_1 : decode cX9_expiry 1 = .ok (.iload_n 1, 1) := by decide +kernel
theorem dX9_expiry_2 : decode cX9_expiry 2 = .ok (.iconst 4, 1) := by decide +kernel
theorem dX9_expiry_3 : decode cX9_expiry 3 = .ok (.invokevirtual 422, 3) := by decide +kernel
theorem dX9_expiry_6 : decode cX9_expiry 6 = .ok (.lreturn, 1) := by decide +kernel
theorem dX9_created_0 : decode cX9_created 0 = .ok (.aload_n 0, 1) := by decide +kernel
theorem dX9_created_1 : decode cX9_created 1 = .ok (.iload_n 1, 1) := by decide +kernel
theorem dX9_created_2 : decode cX9_created 2 = .ok (.iconst 5, 1) := by decide +kernel
theorem dX9_created_3 : decode cX9_created 3 = .ok (.invokevirtual 422, 3) := by decide +kernel
theorem dX9_created_6 : decode cX9_created 6 = .ok (.lreturn, 1) := by decide +kernel
theorem dX9_accessed_0 : decode cX9_accessed 0 = .ok (.aload_n 0, 1) := by decide +kernel
theorem dX9_accessed_1 : decode cX9_accessed 1 = .ok (.iload_n 1, 1) := by decide +kernel
theorem dX9_accessed_2 : decode cX9_accessed 2 = .ok (.bipush 6, 2) := by decide +kernel
theorem dX9_accessed_4 : decode cX9_accessed 4 = .ok (.invokevirtual 422, 3) := by decide +kernel
theorem dX9_accessed_7 : decode cX9_accessed 7 = .ok (.lreturn, 1) := by decide +kernel
theorem dX9_serial_0 : decode cX9_serial 0 = .ok (.aload_n 0, 1) := by decide +kernel
theorem dX9_serial_1 : decode cX9_serial 1 = .ok (.iload_n 1, 1) := by decide +kernel
theorem dX9_serial_2 : decode cX9_serial 2 = .ok (.bipush 7, 2) := by decide +kernel
theorem dX9_serial_4 : decode cX9_serial 4 = .ok (.invokevirtual 422, 3) := by decide +kernel
theorem dX9_serial_7 : decode cX9_serial 7 = .ok (.l2i, 1) := by decide +kernel
theorem dX9_serial_8 : decode cX9_serial 8 = .ok (.ireturn, 1) := by decide +kernel
theorem dX9_isHostOnly_0 : decode cX9_isHostOnly 0 = .ok (.aload_n 0, 1) := by decide +kernel
theorem dX9_isHostOnly_1 : decode cX9_isHostOnly 1 = .ok (.iload_n 1, 1) := by decide +kernel
theorem dX9_isHostOnly_2 : decode cX9_isHostOnly 2 = .ok (.bipush 8, 2) := by decide +kernel
theorem dX9_isHostOnly_4 : decode cX9_isHostOnly 4 = .ok (.invokevirtual 422, 3) := by decide +kernel
theorem dX9_isHostOnly_7 : decode cX9_isHostOnly 7 = .ok (.lconst 1, 1) := by decide +kernel
theorem dX9_isHostOnly_8 : decode cX9_isHostOnly 8 = .ok (.lcmp, 1) := by decide +kernel
theorem dX9_isHostOnly_9 : decode cX9_isHostOnly 9 = .ok (.ifCond .ne 7, 3) := by decide +kernel
theorem dX9_isHostOnly_12 : decode cX9_isHostOnly 12 = .ok (.iconst 1, 1) := by decide +kernel
theorem dX9_isHostOnly_13 : decode cX9_isHostOnly 13 = .ok (.goto 4, 3) := by decide +kernel
theorem dX9_isHostOnly_16 : decode cX9_isHostOnly 16 = .ok (.iconst 0, 1) := by decide +kernel
theorem dX9_isHostOnly_17 : decode cX9_isHostOnly 17 = .ok (.ireturn, 1) := by decide +kernel
theorem dX9_isSecure_0 : decode cX9_isSecure 0 = .ok (.aload_n 0, 1) := by decide +kernel
theorem dX9_isSecure_1 : decode cX9_isSecure 1 = .ok (.iload_n 1, 1) := by decide +kernel
theorem dX9_isSecure_2 : decode cX9_isSecure 2 = .ok (.bipush 9, 2) := by decide +kernel
theorem dX9_isSecure_4 : decode cX9_isSecure 4 = .ok (.invokevirtual 422, 3) := by decide +kernel
theorem dX9_isSecure_7 : decode cX9_isSecure 7 = .ok (.lconst 1, 1) := by decide +kernel
theorem dX9_isSecure_8 : decode cX9_isSecure 8 = .ok (.lcmp, 1) := by decide +kernel
theorem dX9_isSecure_9 : decode cX9_isSecure 9 = .ok (.ifCond .ne 7, 3) := by decide +kernel
theorem dX9_isSecure_12 : decode cX9_isSecure 12 = .ok (.iconst 1, 1) := by decide +kernel
theorem dX9_isSecure_13 : decode cX9_isSecure 13 = .ok (.goto 4, 3) := by decide +kernel
theorem dX9_isSecure_16 : decode cX9_isSecure 16 = .ok (.iconst 0, 1) := by decide +kernel
theorem dX9_isSecure_17 : decode cX9_isSecure 17 = .ok (.ireturn, 1) := by decide +kernel
theorem dX9_isHttpOnly_0 : decode cX9_isHttpOnly 0 = .ok (.aload_n 0, 1) := by decide +kernel
theorem dX9_isHttpOnly_1 : decode cX9_isHttpOnly 1 = .ok (.iload_n 1, 1) := by decide +kernel
theorem dX9_isHttpOnly_2 : decode cX9_isHttpOnly 2 = .ok (.bipush 10, 2) := by decide +kernel
theorem dX9_isHttpOnly_4 : decode cX9_isHttpOnly 4 = .ok (.invokevirtual 422, 3) := by decide +kernel
theorem dX9_isHttpOnly_7 : decode cX9_isHttpOnly 7 = .ok (.lconst 1, 1) := by decide +kernel
theorem dX9_isHttpOnly_8 : decode cX9_isHttpOnly 8 = .ok (.lcmp, 1) := by decide +kernel
theorem dX9_isHttpOnly_9 : decode cX9_isHttpOnly 9 = .ok (.ifCond .ne 7, 3) := by decide +kernel
theorem dX9_isHttpOnly_12 : decode cX9_isHttpOnly 12 = .ok (.iconst 1, 1) := by decide +kernel
theorem dX9_isHttpOnly_13 : decode cX9_isHttpOnly 13 = .ok (.goto 4, 3) := by decide +kernel
theorem dX9_isHttpOnly_16 : decode cX9_isHttpOnly 16 = .ok (.iconst 0, 1) := by decide +kernel
theorem dX9_isHttpOnly_17 : decode cX9_isHttpOnly 17 = .ok (.ireturn, 1) := by decide +kernel
theorem dX9_sameSite_0 : decode cX9_sameSite 0 = .ok (.aload_n 0, 1) := by decide +kernel
theorem dX9_sameSite_1 : decode cX9_sameSite 1 = .ok (.iload_n 1, 1) := by decide +kernel
theorem dX9_sameSite_2 : decode cX9_sameSite 2 = .ok (.bipush 11, 2) := by decide +kernel
theorem dX9_sameSite_4 : decode cX9_sameSite 4 = .ok (.invokevirtual 422, 3) := by decide +kernel
theorem dX9_sameSite_7 : decode cX9_sameSite 7 = .ok (.l2i, 1) := by decide +kernel
theorem dX9_sameSite_8 : decode cX9_sameSite 8 = .ok (.ireturn, 1) := by decide +kernel
theorem dX9_priority_0 : decode cX9_priority 0 = .ok (.aload_n 0, 1) := by decide +kernel
theorem dX9_priority_1 : decode cX9_priority 1 = .ok (.iload_n 1, 1) := by decide +kernel
theorem dX9_priority_2 : decode cX9_priority 2 = .ok (.bipush 12, 2) := by decide +kernel
theorem dX9_priority_4 : decode cX9_priority 4 = .ok (.invokevirtual 422, 3) := by decide +kernel
theorem dX9_priority_7 : decode cX9_priority 7 = .ok (.l2i, 1) := by decide +kernel
theorem dX9_priority_8 : decode cX9_priority 8 = .ok (.ireturn, 1) := by decide +kernel
theorem dX9_firstFrom_0 : decode cX9_firstFrom 0 = .ok (.aload_n 0, 1) := by decide +kernel
theorem dX9_firstFrom_1 : decode cX9_firstFrom 1 = .ok (.iconst 0, 1) := by decide +kernel
theorem dX9_firstFrom_2 : decode cX9_firstFrom 2 = .ok (.putfield 82, 3) := by decide +kernel
theorem dX9_firstFrom_5 : decode cX9_firstFrom 5 = .ok (.aload_n 0, 1) := by decide +kernel
theorem dX9_firstFrom_6 : decode cX9_firstFrom 6 = .ok (.sipush 8400, 3) := by decide +kernel
theorem dX9_firstFrom_9 : decode cX9_firstFrom 9 = .ok (.aload_n 0, 1) := by decide +kernel
theorem dX9_firstFrom_10 : decode cX9_firstFrom 10 = .ok (.getfield 133, 3) := by decide +kernel
theorem dX9_firstFrom_13 : decode cX9_firstFrom 13 = .ok (.invokevirtual 119, 3) := by decide +kernel
theorem dX9_firstFrom_16 : decode cX9_firstFrom 16 = .ok (.ifCond .ne 9, 3) := by decide +kernel
theorem dX9_firstFrom_19 : decode cX9_firstFrom 19 = .ok (.aload_n 0, 1) := by decide +kernel
theorem dX9_firstFrom_20 : decode cX9_firstFrom 20 = .ok (.iconst 1, 1) := by decide +kernel
theorem dX9_firstFrom_21 : decode cX9_firstFrom 21 = .ok (.invokevirtual 166, 3) := by decide +kernel
theorem dX9_firstFrom_24 : decode cX9_firstFrom 24 = .ok (.ireturn, 1) := by decide +kernel
theorem dX9_firstFrom_25 : decode cX9_firstFrom 25 = .ok (.iconst 0, 1) := by decide +kernel
theorem dX9_firstFrom_26 : decode cX9_firstFrom 26 = .ok (.istore_n 1, 1) := by decide +kernel
theorem dX9_firstFrom_27 : decode cX9_firstFrom 27 = .ok (.iconst 0, 1) := by decide +kernel
theorem dX9_firstFrom_28 : decode cX9_firstFrom 28 = .ok (.istore_n 2, 1) := by decide +kernel
theorem dX9_firstFrom_29 : decode cX9_firstFrom 29 = .ok (.iload_n 2, 1) := by decide +kernel
theorem dX9_firstFrom_30 : decode cX9_firstFrom 30 = .ok (.i2l, 1) := by decide +kernel
theorem dX9_firstFrom_31 : decode cX9_firstFrom 31 = .ok (.aload_n 0, 1) := by decide +kernel
theorem dX9_firstFrom_32 : decode cX9_firstFrom 32 = .ok (.getfield 7, 3) := by decide +kernel
theorem dX9_firstFrom_35 : decode cX9_firstFrom 35 = .ok (.iconst 5, 1) := by decide +kernel
theorem dX9_firstFrom_36 : decode cX9_firstFrom 36 = .ok (.laload, 1) := by decide +kernel
theorem dX9_firstFrom_37 : decode cX9_firstFrom 37 = .ok (.lcmp, 1) := by decide +kernel
theorem dX9_firstFrom_38 : decode cX9_firstFrom 38 = .ok (.ifCond .ge 49, 3) := by decide +kernel
theorem dX9_firstFrom_41 : decode cX9_firstFrom 41 = .ok (.iload_n 2, 1) := by decide +kernel
theorem dX9_firstFrom_42 : decode cX9_firstFrom 42 = .ok (.invokestatic 324, 3) := by decide +kernel
theorem dX9_firstFrom_45 : decode cX9_firstFrom 45 = .ok (.istore_n 3, 1) := by decide +kernel
theorem dX9_firstFrom_46 : decode cX9_firstFrom 46 = .ok (.iload_n 1, 1) := by decide +kernel
theorem dX9_firstFrom_47 : decode cX9_firstFrom 47 = .ok (.aload_n 0, 1) := by decide +kernel
theorem dX9_firstFrom_48 : decode cX9_firstFrom 48 = .ok (.iload_n 3, 1) := by decide +kernel
theorem dX9_firstFrom_49 : decode cX9_firstFrom 49 = .ok (.bipush 62, 2) := by decide +kernel
theorem dX9_firstFrom_51 : decode cX9_firstFrom 51 = .ok (.iadd, 1) := by decide +kernel
theorem dX9_firstFrom_52 : decode cX9_firstFrom 52 = .ok (.aload_n 0, 1) := by decide +kernel
theorem dX9_firstFrom_53 : decode cX9_firstFrom 53 = .ok (.getfield 7, 3) := by decide +kernel
theorem dX9_firstFrom_56 : decode cX9_firstFrom 56 = .ok (.iload_n 3, 1) := by decide +kernel
theorem dX9_firstFrom_57 : decode cX9_firstFrom 57 = .ok (.iconst 2, 1) := by decide +kernel
theorem dX9_firstFrom_58 : decode cX9_firstFrom 58 = .ok (.iadd, 1) := by decide +kernel
theorem dX9_firstFrom_59 : decode cX9_firstFrom 59 = .ok (.laload, 1) := by decide +kernel
theorem dX9_firstFrom_60 : decode cX9_firstFrom 60 = .ok (.l2i, 1) := by decide +kernel
theorem dX9_firstFrom_61 : decode cX9_firstFrom 61 = .ok (.sipush 8400, 3) := by decide +kernel
theorem dX9_firstFrom_64 : decode cX9_firstFrom 64 = .ok (.aload_n 0, 1) := by decide +kernel
theorem dX9_firstFrom_65 : decode cX9_firstFrom 65 = .ok (.getfield 133, 3) := by decide +kernel
theorem dX9_firstFrom_68 : decode cX9_firstFrom 68 = .ok (.invokevirtual 404, 3) := by decide +kernel
theorem dX9_firstFrom_71 : decode cX9_firstFrom 71 = .ok (.ifCond .ge 7, 3) := by decide +kernel
theorem dX9_firstFrom_74 : decode cX9_firstFrom 74 = .ok (.iconst 1, 1) := by decide +kernel
theorem dX9_firstFrom_75 : decode cX9_firstFrom 75 = .ok (.goto 4, 3) := by decide +kernel
theorem dX9_firstFrom_78 : decode cX9_firstFrom 78 = .ok (.iconst 0, 1) := by decide +kernel
theorem dX9_firstFrom_79 : decode cX9_firstFrom 79 = .ok (.iadd, 1) := by decide +kernel
theorem dX9_firstFrom_80 : decode cX9_firstFrom 80 = .ok (.istore_n 1, 1) := by decide +kernel
theorem dX9_firstFrom_81 : decode cX9_firstFrom 81 = .ok (.iinc 2 1, 3) := by decide +kernel
theorem dX9_firstFrom_84 : decode cX9_firstFrom 84 = .ok (.goto (-55), 3) := by decide +kernel
theorem dX9_firstFrom_87 : decode cX9_firstFrom 87 = .ok (.iload_n 1, 1) := by decide +kernel
theorem dX9_firstFrom_88 : decode cX9_firstFrom 88 = .ok (.i2l, 1) := by decide +kernel
theorem dX9_firstFrom_89 : decode cX9_firstFrom 89 = .ok (.aload_n 0, 1) := by decide +kernel
theorem dX9_firstFrom_90 : decode cX9_firstFrom 90 = .ok (.getfield 7, 3) := by decide +kernel
theorem dX9_firstFrom_93 : decode cX9_firstFrom 93 = .ok (.iconst 5, 1) := by decide +kernel
theorem dX9_firstFrom_94 : decode cX9_firstFrom 94 = .ok (.laload, 1) := by decide +kernel
theorem dX9_firstFrom_95 : decode cX9_firstFrom 95 = .ok (.lcmp, 1) := by decide +kernel
theorem dX9_firstFrom_96 : decode cX9_firstFrom 96 = .ok (.ifCond .ge 7, 3) := by decide +kernel
theorem dX9_firstFrom_99 : decode cX9_firstFrom 99 = .ok (.iload_n 1, 1) := by decide +kernel
theorem dX9_firstFrom_100 : decode cX9_firstFrom 100 = .ok (.goto 4, 3) := by decide +kernel
theorem dX9_firstFrom_103 : decode cX9_firstFrom 103 = .ok (.iconst (-1), 1) := by decide +kernel
theorem dX9_firstFrom_104 : decode cX9_firstFrom 104 = .ok (.ireturn, 1) := by decide +kernel
theorem dX9_remove_0 : decode cX9_remove 0 = .ok (.aload_n 0, 1) := by decide +kernel
theorem dX9_remove_1 : decode cX9_remove 1 = .ok (.iload_n 1, 1) := by decide +kernel
theorem dX9_remove_2 : decode cX9_remove 2 = .ok (.invokevirtual 416, 3) := by decide +kernel
theorem dX9_remove_5 : decode cX9_remove 5 = .ok (.ifCond .eq 5, 3) := by decide +kernel
theorem dX9_remove_8 : decode cX9_remove 8 = .ok (.iconst 0, 1) := by decide +kernel
theorem dX9_remove_9 : decode cX9_remove 9 = .ok (.ireturn, 1) := by decide +kernel
theorem dX9_remove_10 : decode cX9_remove 10 = .ok (.aload_n 0, 1) := by decide +kernel
theorem dX9_remove_11 : decode cX9_remove 11 = .ok (.aload_n 0, 1) := by decide +kernel
theorem dX9_remove_12 : decode cX9_remove 12 = .ok (.iload_n 1, 1) := by decide +kernel
theorem dX9_remove_13 : decode cX9_remove 13 = .ok (.invokevirtual 413, 3) := by decide +kernel
theorem dX9_remove_16 : decode cX9_remove 16 = .ok (.invokevirtual 358, 3) := by decide +kernel
theorem dX9_remove_19 : decode cX9_remove 19 = .ok (.aload_n 0, 1) := by decide +kernel
theorem dX9_remove_20 : decode cX9_remove 20 = .ok (.getfield 7, 3) := by decide +kernel
theorem dX9_remove_23 : decode cX9_remove 23 = .ok (.iconst 5, 1) := by decide +kernel
theorem dX9_remove_24 : decode cX9_remove 24 = .ok (.laload, 1) := by decide +kernel
theorem dX9_remove_25 : decode cX9_remove 25 = .ok (.l2i, 1) := by decide +kernel
theorem dX9_remove_26 : decode cX9_remove 26 = .ok (.ireturn, 1) := by decide +kernel
theorem dX9_clearSite_0 : decode cX9_clearSite 0 = .ok (.aload_n 0, 1) := by decide +kernel
theorem dX9_clearSite_1 : decode cX9_clearSite 1 = .ok (.iconst 0, 1) := by decide +kernel
theorem dX9_clearSite_2 : decode cX9_clearSite 2 = .ok (.putfield 82, 3) := by decide +kernel
theorem dX9_clearSite_5 : decode cX9_clearSite 5 = .ok (.aload_n 0, 1) := by decide +kernel
theorem dX9_clearSite_6 : decode cX9_clearSite 6 = .ok (.getfield 7, 3) := by decide +kernel
theorem dX9_clearSite_9 : decode cX9_clearSite 9 = .ok (.bipush 100, 2) := by decide +kernel
theorem dX9_clearSite_11 : decode cX9_clearSite 11 = .ok (.laload, 1) := by decide +kernel
theorem dX9_clearSite_12 : decode cX9_clearSite 12 = .ok (.lconst 0, 1) := by decide +kernel
theorem dX9_clearSite_13 : decode cX9_clearSite 13 = .ok (.lcmp, 1) := by decide +kernel
theorem dX9_clearSite_14 : decode cX9_clearSite 14 = .ok (.ifCond .ne 9, 3) := by decide +kernel
theorem dX9_clearSite_17 : decode cX9_clearSite 17 = .ok (.aload_n 0, 1) := by decide +kernel
theorem dX9_clearSite_18 : decode cX9_clearSite 18 = .ok (.iconst 1, 1) := by decide +kernel
theorem dX9_clearSite_19 : decode cX9_clearSite 19 = .ok (.invokevirtual 166, 3) := by decide +kernel
theorem dX9_clearSite_22 : decode cX9_clearSite 22 = .ok (.ireturn, 1) := by decide +kernel
theorem dX9_clearSite_23 : decode cX9_clearSite 23 = .ok (.iconst 0, 1) := by decide +kernel
theorem dX9_clearSite_24 : decode cX9_clearSite 24 = .ok (.istore_n 1, 1) := by decide +kernel
theorem dX9_clearSite_25 : decode cX9_clearSite 25 = .ok (.aload_n 0, 1) := by decide +kernel
theorem dX9_clearSite_26 : decode cX9_clearSite 26 = .ok (.getfield 7, 3) := by decide +kernel
theorem dX9_clearSite_29 : decode cX9_clearSite 29 = .ok (.iconst 5, 1) := by decide +kernel
theorem dX9_clearSite_30 : decode cX9_clearSite 30 = .ok (.laload, 1) := by decide +kernel
theorem dX9_clearSite_31 : decode cX9_clearSite 31 = .ok (.l2i, 1) := by decide +kernel
theorem dX9_clearSite_32 : decode cX9_clearSite 32 = .ok (.iconst 1, 1) := by decide +kernel
theorem dX9_clearSite_33 : decode cX9_clearSite 33 = .ok (.isub, 1) := by decide +kernel
theorem dX9_clearSite_34 : decode cX9_clearSite 34 = .ok (.istore_n 2, 1) := by decide +kernel
theorem dX9_clearSite_35 : decode cX9_clearSite 35 = .ok (.iload_n 2, 1) := by decide +kernel
theorem dX9_clearSite_36 : decode cX9_clearSite 36 = .ok (.ifCond .lt 48, 3) := by decide +kernel
theorem dX9_clearSite_39 : decode cX9_clearSite 39 = .ok (.iload_n 2, 1) := by decide +kernel
theorem dX9_clearSite_40 : decode cX9_clearSite 40 = .ok (.invokestatic 324, 3) := by decide +kernel
theorem dX9_clearSite_43 : decode cX9_clearSite 43 = .ok (.istore_n 3, 1) := by decide +kernel
theorem dX9_clearSite_44 : decode cX9_clearSite 44 = .ok (.aload_n 0, 1) := by decide +kernel
theorem dX9_clearSite_45 : decode cX9_clearSite 45 = .ok (.iload_n 3, 1) := by decide +kernel
theorem dX9_clearSite_46 : decode cX9_clearSite 46 = .ok (.bipush 62, 2) := by decide +kernel
theorem dX9_clearSite_48 : decode cX9_clearSite 48 = .ok (.iadd, 1) := by decide +kernel
theorem dX9_clearSite_49 : decode cX9_clearSite 49 = .ok (.aload_n 0, 1) := by decide +kernel
theorem dX9_clearSite_50 : decode cX9_clearSite 50 = .ok (.getfield 7, 3) := by decide +kernel
theorem dX9_clearSite_53 : decode cX9_clearSite 53 = .ok (.iload_n 3, 1) := by decide +kernel
theorem dX9_clearSite_54 : decode cX9_clearSite 54 = .ok (.iconst 2, 1) := by decide +kernel
theorem dX9_clearSite_55 : decode cX9_clearSite 55 = .ok (.iadd, 1) := by decide +kernel
theorem dX9_clearSite_56 : decode cX9_clearSite 56 = .ok (.laload, 1) := by decide +kernel
theorem dX9_clearSite_57 : decode cX9_clearSite 57 = .ok (.l2i, 1) := by decide +kernel
theorem dX9_clearSite_58 : decode cX9_clearSite 58 = .ok (.bipush 104, 2) := by decide +kernel
theorem dX9_clearSite_60 : decode cX9_clearSite 60 = .ok (.aload_n 0, 1) := by decide +kernel
theorem dX9_clearSite_61 : decode cX9_clearSite 61 = .ok (.invokevirtual 169, 3) := by decide +kernel
theorem dX9_clearSite_64 : decode cX9_clearSite 64 = .ok (.invokevirtual 159, 3) := by decide +kernel
theorem dX9_clearSite_67 : decode cX9_clearSite 67 = .ok (.ifCond .eq 11, 3) := by decide +kernel
theorem dX9_clearSite_70 : decode cX9_clearSite 70 = .ok (.aload_n 0, 1) := by decide +kernel
theorem dX9_clearSite_71 : decode cX9_clearSite 71 = .ok (.iload_n 2, 1) := by decide +kernel
theorem dX9_clearSite_72 : decode cX9_clearSite 72 = .ok (.invokevirtual 358, 3) := by decide +kernel
theorem dX9_clearSite_75 : decode cX9_clearSite 75 = .ok (.iinc 1 1, 3) := by decide +kernel
theorem dX9_clearSite_78 : decode cX9_clearSite 78 = .ok (.iinc 2 (-1), 3) := by decide +kernel
theorem dX9_clearSite_81 : decode cX9_clearSite 81 = .ok (.goto (-46), 3) := by decide +kernel
theorem dX9_clearSite_84 : decode cX9_clearSite 84 = .ok (.iload_n 1, 1) := by decide +kernel
theorem dX9_clearSite_85 : decode cX9_clearSite 85 = .ok (.ireturn, 1) := by decide +kernel
theorem dX9_goBetween_0 : decode cX9_goBetween 0 = .ok (.iconst 0, 1) := by decide +kernel
theorem dX9_goBetween_1 : decode cX9_goBetween 1 = .ok (.istore 5, 2) := by decide +kernel
theorem dX9_goBetween_3 : decode cX9_goBetween 3 = .ok (.aload_n 0, 1) := by decide +kernel
theorem dX9_goBetween_4 : decode cX9_goBetween 4 = .ok (.getfield 7, 3) := by decide +kernel
theorem dX9_goBetween_7 : decode cX9_goBetween 7 = .ok (.iconst 5, 1) := by decide +kernel
theorem dX9_goBetween_8 : decode cX9_goBetween 8 = .ok (.laload, 1) := by decide +kernel
theorem dX9_goBetween_9 : decode cX9_goBetween 9 = .ok (.l2i, 1) := by decide +kernel
theorem dX9_goBetween_10 : decode cX9_goBetween 10 = .ok (.iconst 1, 1) := by decide +kernel
theorem dX9_goBetween_11 : decode cX9_goBetween 11 = .ok (.isub, 1) := by decide +kernel
theorem dX9_goBetween_12 : decode cX9_goBetween 12 = .ok (.istore 6, 2) := by decide +kernel
theorem dX9_goBetween_14 : decode cX9_goBetween 14 = .ok (.iload 6, 2) := by decide +kernel
theorem dX9_goBetween_16 : decode cX9_goBetween 16 = .ok (.ifCond .lt 38, 3) := by decide +kernel
theorem dX9_goBetween_19 : decode cX9_goBetween 19 = .ok (.aload_n 0, 1) := by decide +kernel
theorem dX9_goBetween_20 : decode cX9_goBetween 20 = .ok (.getfield 7, 3) := by decide +kernel
theorem dX9_goBetween_23 : decode cX9_goBetween 23 = .ok (.iload 6, 2) := by decide +kernel
theorem dX9_goBetween_25 : decode cX9_goBetween 25 = .ok (.invokestatic 324, 3) := by decide +kernel
theorem dX9_goBetween_28 : decode cX9_goBetween 28 = .ok (.iconst 4, 1) := by decide +kernel
theorem dX9_goBetween_29 : decode cX9_goBetween 29 = .ok (.iadd, 1) := by decide +kernel
theorem dX9_goBetween_30 : decode cX9_goBetween 30 = .ok (.laload, 1) := by decide +kernel
theorem dX9_goBetween_31 : decode cX9_goBetween 31 = .ok (.lload_n 1, 1) := by decide +kernel
theorem dX9_goBetween_32 : decode cX9_goBetween 32 = .ok (.lload_n 3, 1) := by decide +kernel
theorem dX9_goBetween_33 : decode cX9_goBetween 33 = .ok (.invokestatic 90, 3) := by decide +kernel
theorem dX9_goBetween_36 : decode cX9_goBetween 36 = .ok (.ifCond .eq 12, 3) := by decide +kernel
theorem dX9_goBetween_39 : decode cX9_goBetween 39 = .ok (.aload_n 0, 1) := by decide +kernel
theorem dX9_goBetween_40 : decode cX9_goBetween 40 = .ok (.iload 6, 2) := by decide +kernel
theorem dX9_goBetween_42 : decode cX9_goBetween 42 = .ok (.invokevirtual 358, 3) := by decide +kernel
theorem dX9_goBetween_45 : decode cX9_goBetween 45 = .ok (.iinc 5 1, 3) := by decide +kernel
theorem dX9_goBetween_48 : decode cX9_goBetween 48 = .ok (.iinc 6 (-1), 3) := by decide +kernel
theorem dX9_goBetween_51 : decode cX9_goBetween 51 = .ok (.goto (-37), 3) := by decide +kernel
theorem dX9_goBetween_54 : decode cX9_goBetween 54 = .ok (.iload 5, 2) := by decide +kernel
theorem dX9_goBetween_56 : decode cX9_goBetween 56 = .ok (.ireturn, 1) := by decide +kernel
theorem dX9_endSession_0 : decode cX9_endSession 0 = .ok (.aload_n 0, 1) := by decide +kernel
theorem dX9_endSession_1 : decode cX9_endSession 1 = .ok (.iconst 0, 1) := by decide +kernel
theorem dX9_endSession_2 : decode cX9_endSession 2 = .ok (.putfield 82, 3) := by decide +kernel
theorem dX9_endSession_5 : decode cX9_endSession 5 = .ok (.aload_n 0, 1) := by decide +kernel
theorem dX9_endSession_6 : decode cX9_endSession 6 = .ok (.ldc2_w 136, 3) := by decide +kernel
theorem dX9_endSession_9 : decode cX9_endSession 9 = .ok (.ldc2_w 136, 3) := by decide +kernel
theorem dX9_endSession_12 : decode cX9_endSession 12 = .ok (.invokevirtual 425, 3) := by decide +kernel
theorem dX9_endSession_15 : decode cX9_endSession 15 = .ok (.ireturn, 1) := by decide +kernel
theorem dX9_advance_0 : decode cX9_advance 0 = .ok (.aload_n 0, 1) := by decide +kernel
theorem dX9_advance_1 : decode cX9_advance 1 = .ok (.iconst 0, 1) := by decide +kernel
theorem dX9_advance_2 : decode cX9_advance 2 = .ok (.putfield 82, 3) := by decide +kernel
theorem dX9_advance_5 : decode cX9_advance 5 = .ok (.iload_n 1, 1) := by decide +kernel
theorem dX9_advance_6 : decode cX9_advance 6 = .ok (.ifCond .ge 9, 3) := by decide +kernel
theorem dX9_advance_9 : decode cX9_advance 9 = .ok (.aload_n 0, 1) := by decide +kernel
theorem dX9_advance_10 : decode cX9_advance 10 = .ok (.iconst 1, 1) := by decide +kernel
theorem dX9_advance_11 : decode cX9_advance 11 = .ok (.invokevirtual 166, 3) := by decide +kernel
theorem dX9_advance_14 : decode cX9_advance 14 = .ok (.ireturn, 1) := by decide +kernel
theorem dX9_advance_15 : decode cX9_advance 15 = .ok (.aload_n 0, 1) := by decide +kernel
theorem dX9_advance_16 : decode cX9_advance 16 = .ok (.getfield 7, 3) := by decide +kernel
theorem dX9_advance_19 : decode cX9_advance 19 = .ok (.iconst 0, 1) := by decide +kernel
theorem dX9_advance_20 : decode cX9_advance 20 = .ok (.dup2, 1) := by decide +kernel
theorem dX9_advance_21 : decode cX9_advance 21 = .ok (.laload, 1) := by decide +kernel
theorem dX9_advance_22 : decode cX9_advance 22 = .ok (.iload_n 1, 1) := by decide +kernel
theorem dX9_advance_23 : decode cX9_advance 23 = .ok (.i2l, 1) := by decide +kernel
theorem dX9_advance_24 : decode cX9_advance 24 = .ok (.ladd, 1) := by decide +kernel
theorem dX9_advance_25 : decode cX9_advance 25 = .ok (.lastore, 1) := by decide +kernel
theorem dX9_advance_26 : decode cX9_advance 26 = .ok (.aload_n 0, 1) := by decide +kernel
theorem dX9_advance_27 : decode cX9_advance 27 = .ok (.lconst 0, 1) := by decide +kernel
theorem dX9_advance_28 : decode cX9_advance 28 = .ok (.aload_n 0, 1) := by decide +kernel
theorem dX9_advance_29 : decode cX9_advance 29 = .ok (.getfield 7, 3) := by decide +kernel
theorem dX9_advance_32 : decode cX9_advance 32 = .ok (.iconst 0, 1) := by decide +kernel
theorem dX9_advance_33 : decode cX9_advance 33 = .ok (.laload, 1) := by decide +kernel
theorem dX9_advance_34 : decode cX9_advance 34 = .ok (.invokevirtual 425, 3) := by decide +kernel
theorem dX9_advance_37 : decode cX9_advance 37 = .ok (.istore_n 2, 1) := by decide +kernel
theorem dX9_advance_38 : decode cX9_advance 38 = .ok (.aload_n 0, 1) := by decide +kernel
theorem dX9_advance_39 : decode cX9_advance 39 = .ok (.getfield 7, 3) := by decide +kernel
theorem dX9_advance_42 : decode cX9_advance 42 = .ok (.bipush 13, 2) := by decide +kernel
theorem dX9_advance_44 : decode cX9_advance 44 = .ok (.dup2, 1) := by decide +kernel
theorem dX9_advance_45 : decode cX9_advance 45 = .ok (.laload, 1) := by decide +kernel
theorem dX9_advance_46 : decode cX9_advance 46 = .ok (.iload_n 2, 1) := by decide +kernel
theorem dX9_advance_47 : decode cX9_advance 47 = .ok (.i2l, 1) := by decide +kernel
theorem dX9_advance_48 : decode cX9_advance 48 = .ok (.ladd, 1) := by decide +kernel
theorem dX9_advance_49 : decode cX9_advance 49 = .ok (.lastore, 1) := by decide +kernel
theorem dX9_advance_50 : decode cX9_advance 50 = .ok (.iload_n 2, 1) := by decide +kernel
theorem dX9_advance_51 : decode cX9_advance 51 = .ok (.ireturn, 1) := by decide +kernel
theorem dX9_time_0 : decode cX9_time 0 = .ok (.aload_n 0, 1) := by decide +kernel
theorem dX9_time_1 : decode cX9_time 1 = .ok (.iconst 0, 1) := by decide +kernel
theorem dX9_time_2 : decode cX9_time 2 = .ok (.putfield 82, 3) := by decide +kernel
theorem dX9_time_5 : decode cX9_time 5 = .ok (.aload_n 0, 1) := by decide +kernel
theorem dX9_time_6 : decode cX9_time 6 = .ok (.getfield 7, 3) := by decide +kernel
theorem dX9_time_9 : decode cX9_time 9 = .ok (.iconst 0, 1) := by decide +kernel
theorem dX9_time_10 : decode cX9_time 10 = .ok (.laload, 1) := by decide +kernel
theorem dX9_time_11 : decode cX9_time 11 = .ok (.lreturn, 1) := by decide +kernel
theorem dX9_nextExpiry_0 : decode cX9_nextExpiry 0 = .ok (.aload_n 0, 1) := by decide +kernel
theorem dX9_nextExpiry_1 : decode cX9_nextExpiry 1 = .ok (.iconst 0, 1) := by decide +kernel
theorem dX9_nextExpiry_2 : decode cX9_nextExpiry 2 = .ok (.putfield 82, 3) := by decide +kernel
theorem dX9_nextExpiry_5 : decode cX9_nextExpiry 5 = .ok (.ldc2_w 136, 3) := by decide +kernel
theorem dX9_nextExpiry_8 : decode cX9_nextExpiry 8 = .ok (.lstore_n 1, 1) := by decide +kernel
theorem dX9_nextExpiry_9 : decode cX9_nextExpiry 9 = .ok (.iconst 0, 1) := by decide +kernel
theorem dX9_nextExpiry_10 : decode cX9_nextExpiry 10 = .ok (.istore_n 3, 1) := by decide +kernel
theorem dX9_nextExpiry_11 : decode cX9_nextExpiry 11 = .ok (.iload_n 3, 1) := by decide +kernel
theorem dX9_nextExpiry_12 : decode cX9_nextExpiry 12 = .ok (.i2l, 1) := by decide +kernel
theorem dX9_nextExpiry_13 : decode cX9_nextExpiry 13 = .ok (.aload_n 0, 1) := by decide +kernel
theorem dX9_nextExpiry_14 : decode cX9_nextExpiry 14 = .ok (.getfield 7, 3) := by decide +kernel
theorem dX9_nextExpiry_17 : decode cX9_nextExpiry 17 = .ok (.iconst 5, 1) := by decide +kernel
theorem dX9_nextExpiry_18 : decode cX9_nextExpiry 18 = .ok (.laload, 1) := by decide +kernel
theorem dX9_nextExpiry_19 : decode cX9_nextExpiry 19 = .ok (.lcmp, 1) := by decide +kernel
theorem dX9_nextExpiry_20 : decode cX9_nextExpiry 20 = .ok (.ifCond .ge 49, 3) := by decide +kernel
theorem dX9_nextExpiry_23 : decode cX9_nextExpiry 23 = .ok (.aload_n 0, 1) := by decide +kernel
theorem dX9_nextExpiry_24 : decode cX9_nextExpiry 24 = .ok (.getfield 7, 3) := by decide +kernel
theorem dX9_nextExpiry_27 : decode cX9_nextExpiry 27 = .ok (.iload_n 3, 1) := by decide +kernel
theorem dX9_nextExpiry_28 : decode cX9_nextExpiry 28 = .ok (.invokestatic 324, 3) := by decide +kernel
theorem dX9_nextExpiry_31 : decode cX9_nextExpiry 31 = .ok (.iconst 4, 1) := by decide +kernel
theorem dX9_nextExpiry_32 : decode cX9_nextExpiry 32 = .ok (.iadd, 1) := by decide +kernel
theorem dX9_nextExpiry_33 : decode cX9_nextExpiry 33 = .ok (.laload, 1) := by decide +kernel
theorem dX9_nextExpiry_34 : decode cX9_nextExpiry 34 = .ok (.lstore 4, 2) := by decide +kernel
theorem dX9_nextExpiry_36 : decode cX9_nextExpiry 36 = .ok (.lload 4, 2) := by decide +kernel
theorem dX9_nextExpiry_38 : decode cX9_nextExpiry 38 = .ok (.lconst 0, 1) := by decide +kernel
theorem dX9_nextExpiry_39 : decode cX9_nextExpiry 39 = .ok (.lcmp, 1) := by decide +kernel
theorem dX9_nextExpiry_40 : decode cX9_nextExpiry 40 = .ok (.ifCond .lt 21, 3) := by decide +kernel
theorem dX9_nextExpiry_43 : decode cX9_nextExpiry 43 = .ok (.lload_n 1, 1) := by decide +kernel
theorem dX9_nextExpiry_44 : decode cX9_nextExpiry 44 = .ok (.lconst 0, 1) := by decide +kernel
theorem dX9_nextExpiry_45 : decode cX9_nextExpiry 45 = .ok (.lcmp, 1) := by decide +kernel
theorem dX9_nextExpiry_46 : decode cX9_nextExpiry 46 = .ok (.ifCond .lt 10, 3) := by decide +kernel
theorem dX9_nextExpiry_49 : decode cX9_nextExpiry 49 = .ok (.lload 4, 2) := by decide +kernel
theorem dX9_nextExpiry_51 : decode cX9_nextExpiry 51 = .ok (.lload_n 1, 1) := by decide +kernel
theorem dX9_nextExpiry_52 : decode cX9_nextExpiry 52 = .ok (.lcmp, 1) := by decide +kernel
theorem dX9_nextExpiry_53 : decode cX9_nextExpiry 53 = .ok (.ifCond .ge 8, 3) := by decide +kernel
theorem dX9_nextExpiry_56 : decode cX9_nextExpiry 56 = .ok (.lload 4, 2) := by decide +kernel
theorem dX9_nextExpiry_58 : decode cX9_nextExpiry 58 = .ok (.goto 4, 3) := by decide +kernel
theorem dX9_nextExpiry_61 : decode cX9_nextExpiry 61 = .ok (.lload_n 1, 1) := by decide +kernel
theorem dX9_nextExpiry_62 : decode cX9_nextExpiry 62 = .ok (.lstore_n 1, 1) := by decide +kernel
theorem dX9_nextExpiry_63 : decode cX9_nextExpiry 63 = .ok (.iinc 3 1, 3) := by decide +kernel
theorem dX9_nextExpiry_66 : decode cX9_nextExpiry 66 = .ok (.goto (-55), 3) := by decide +kernel
theorem dX9_nextExpiry_69 : decode cX9_nextExpiry 69 = .ok (.lload_n 1, 1) := by decide +kernel
theorem dX9_nextExpiry_70 : decode cX9_nextExpiry 70 = .ok (.lreturn, 1) := by decide +kernel
theorem dX9_setLimit_0 : decode cX9_setLimit 0 = .ok (.aload_n 0, 1) := by decide +kernel
theorem dX9_setLimit_1 : decode cX9_setLimit 1 = .ok (.iconst 0, 1) := by decide +kernel
theorem dX9_setLimit_2 : decode cX9_setLimit 2 = .ok (.putfield 82, 3) := by decide +kernel
theorem dX9_setLimit_5 : decode cX9_setLimit 5 = .ok (.iload_n 1, 1) := by decide +kernel
theorem dX9_setLimit_6 : decode cX9_setLimit 6 = .ok (.i2l, 1) := by decide +kernel
theorem dX9_setLimit_7 : decode cX9_setLimit 7 = .ok (.lconst 0, 1) := by decide +kernel
theorem dX9_setLimit_8 : decode cX9_setLimit 8 = .ok (.lconst 1, 1) := by decide +kernel
theorem dX9_setLimit_9 : decode cX9_setLimit 9 = .ok (.invokestatic 90, 3) := by decide +kernel
theorem dX9_setLimit_12 : decode cX9_setLimit 12 = .ok (.ifCond .ne 9, 3) := by decide +kernel
theorem dX9_setLimit_15 : decode cX9_setLimit 15 = .ok (.aload_n 0, 1) := by decide +kernel
theorem dX9_setLimit_16 : decode cX9_setLimit 16 = .ok (.iconst 1, 1) := by decide +kernel
theorem dX9_setLimit_17 : decode cX9_setLimit 17 = .ok (.invokevirtual 166, 3) := by decide +kernel
theorem dX9_setLimit_20 : decode cX9_setLimit 20 = .ok (.ireturn, 1) := by decide +kernel
theorem dX9_setLimit_21 : decode cX9_setLimit 21 = .ok (.iload_n 2, 1) := by decide +kernel
theorem dX9_setLimit_22 : decode cX9_setLimit 22 = .ok (.i2l, 1) := by decide +kernel
theorem dX9_setLimit_23 : decode cX9_setLimit 23 = .ok (.lconst 1, 1) := by decide +kernel
theorem dX9_setLimit_24 : decode cX9_setLimit 24 = .ok (.ldc2_w 283, 3) := by decide +kernel
theorem dX9_setLimit_27 : decode cX9_setLimit 27 = .ok (.invokestatic 90, 3) := by decide +kernel
theorem dX9_setLimit_30 : decode cX9_setLimit 30 = .ok (.ifCond .ne 9, 3) := by decide +kernel
theorem dX9_setLimit_33 : decode cX9_setLimit 33 = .ok (.aload_n 0, 1) := by decide +kernel
theorem dX9_setLimit_34 : decode cX9_setLimit 34 = .ok (.iconst 2, 1) := by decide +kernel
theorem dX9_setLimit_35 : decode cX9_setLimit 35 = .ok (.invokevirtual 166, 3) := by decide +kernel
theorem dX9_setLimit_38 : decode cX9_setLimit 38 = .ok (.ireturn, 1) := by decide +kernel
theorem dX9_setLimit_39 : decode cX9_setLimit 39 = .ok (.aload_n 0, 1) := by decide +kernel
theorem dX9_setLimit_40 : decode cX9_setLimit 40 = .ok (.getfield 7, 3) := by decide +kernel
theorem dX9_setLimit_43 : decode cX9_setLimit 43 = .ok (.iconst 2, 1) := by decide +kernel
theorem dX9_setLimit_44 : decode cX9_setLimit 44 = .ok (.iload_n 1, 1) := by decide +kernel
theorem dX9_setLimit_45 : decode cX9_setLimit 45 = .ok (.iadd, 1) := by decide +kernel
theorem dX9_setLimit_46 : decode cX9_setLimit 46 = .ok (.laload, 1) := by decide +kernel
theorem dX9_setLimit_47 : decode cX9_setLimit 47 = .ok (.l2i, 1) := by decide +kernel
theorem dX9_setLimit_48 : decode cX9_setLimit 48 = .ok (.istore_n 3, 1) := by decide +kernel
theorem dX9_setLimit_49 : decode cX9_setLimit 49 = .ok (.aload_n 0, 1) := by decide +kernel
theorem dX9_setLimit_50 : decode cX9_setLimit 50 = .ok (.getfield 7, 3) := by decide +kernel
theorem dX9_setLimit_53 : decode cX9_setLimit 53 = .ok (.iconst 2, 1) := by decide +kernel
theorem dX9_setLimit_54 : decode cX9_setLimit 54 = .ok (.iload_n 1, 1) := by decide +kernel
theorem dX9_setLimit_55 : decode cX9_setLimit 55 = .ok (.iadd, 1) := by decide +kernel
theorem dX9_setLimit_56 : decode cX9_setLimit 56 = .ok (.iload_n 2, 1) := by decide +kernel
theorem dX9_setLimit_57 : decode cX9_setLimit 57 = .ok (.i2l, 1) := by decide +kernel
theorem dX9_setLimit_58 : decode cX9_setLimit 58 = .ok (.lastore, 1) := by decide +kernel
theorem dX9_setLimit_59 : decode cX9_setLimit 59 = .ok (.iload_n 3, 1) := by decide +kernel
theorem dX9_setLimit_60 : decode cX9_setLimit 60 = .ok (.ireturn, 1) := by decide +kernel
theorem dX9_setPolicy_0 : decode cX9_setPolicy 0 = .ok (.aload_n 0, 1) := by decide +kernel
theorem dX9_setPolicy_1 : decode cX9_setPolicy 1 = .ok (.iconst 0, 1) := by decide +kernel
theorem dX9_setPolicy_2 : decode cX9_setPolicy 2 = .ok (.putfield 82, 3) := by decide +kernel
theorem dX9_setPolicy_5 : decode cX9_setPolicy 5 = .ok (.iload_n 1, 1) := by decide +kernel
theorem dX9_setPolicy_6 : decode cX9_setPolicy 6 = .ok (.i2l, 1) := by decide +kernel
theorem dX9_setPolicy_7 : decode cX9_setPolicy 7 = .ok (.lconst 0, 1) := by decide +kernel
theorem dX9_setPolicy_8 : decode cX9_setPolicy 8 = .ok (.ldc2_w 429, 3) := by decide +kernel
theorem dX9_setPolicy_11 : decode cX9_setPolicy 11 = .ok (.invokestatic 90, 3) := by decide +kernel
theorem dX9_setPolicy_14 : decode cX9_setPolicy 14 = .ok (.ifCond .ne 9, 3) := by decide +kernel
theorem dX9_setPolicy_17 : decode cX9_setPolicy 17 = .ok (.aload_n 0, 1) := by decide +kernel
theorem dX9_setPolicy_18 : decode cX9_setPolicy 18 = .ok (.iconst 1, 1) := by decide +kernel
theorem dX9_setPolicy_19 : decode cX9_setPolicy 19 = .ok (.invokevirtual 166, 3) := by decide +kernel
theorem dX9_setPolicy_22 : decode cX9_setPolicy 22 = .ok (.ireturn, 1) := by decide +kernel
theorem dX9_setPolicy_23 : decode cX9_setPolicy 23 = .ok (.aload_n 0, 1) := by decide +kernel
theorem dX9_setPolicy_24 : decode cX9_setPolicy 24 = .ok (.getfield 7, 3) := by decide +kernel
theorem dX9_setPolicy_27 : decode cX9_setPolicy 27 = .ok (.iconst 4, 1) := by decide +kernel
theorem dX9_setPolicy_28 : decode cX9_setPolicy 28 = .ok (.laload, 1) := by decide +kernel
theorem dX9_setPolicy_29 : decode cX9_setPolicy 29 = .ok (.l2i, 1) := by decide +kernel
theorem dX9_setPolicy_30 : decode cX9_setPolicy 30 = .ok (.istore_n 2, 1) := by decide +kernel
theorem dX9_setPolicy_31 : decode cX9_setPolicy 31 = .ok (.aload_n 0, 1) := by decide +kernel
theorem dX9_setPolicy_32 : decode cX9_setPolicy 32 = .ok (.getfield 7, 3) := by decide +kernel
theorem dX9_setPolicy_35 : decode cX9_setPolicy 35 = .ok (.iconst 4, 1) := by decide +kernel
theorem dX9_setPolicy_36 : decode cX9_setPolicy 36 = .ok (.iload_n 1, 1) := by decide +kernel
theorem dX9_setPolicy_37 : decode cX9_setPolicy 37 = .ok (.i2l, 1) := by decide +kernel
theorem dX9_setPolicy_38 : decode cX9_setPolicy 38 = .ok (.lastore, 1) := by decide +kernel
theorem dX9_setPolicy_39 : decode cX9_setPolicy 39 = .ok (.iload_n 2, 1) := by decide +kernel
theorem dX9_setPolicy_40 : decode cX9_setPolicy 40 = .ok (.ireturn, 1) := by decide +kernel
theorem dX9_victim_0 : decode cX9_victim 0 = .ok (.aload_n 0, 1) := by decide +kernel
theorem dX9_victim_1 : decode cX9_victim 1 = .ok (.iconst 0, 1) := by decide +kernel
theorem dX9_victim_2 : decode cX9_victim 2 = .ok (.putfield 82, 3) := by decide +kernel
theorem dX9_victim_5 : decode cX9_victim 5 = .ok (.aload_n 0, 1) := by decide +kernel
theorem dX9_victim_6 : decode cX9_victim 6 = .ok (.ldc2_w 136, 3) := by decide +kernel
theorem dX9_victim_9 : decode cX9_victim 9 = .ok (.iconst 0, 1) := by decide +kernel
theorem dX9_victim_10 : decode cX9_victim 10 = .ok (.invokevirtual 383, 3) := by decide +kernel
theorem dX9_victim_13 : decode cX9_victim 13 = .ok (.istore_n 1, 1) := by decide +kernel
theorem dX9_victim_14 : decode cX9_victim 14 = .ok (.iload_n 1, 1) := by decide +kernel
theorem dX9_victim_15 : decode cX9_victim 15 = .ok (.ifCond .ge 7, 3) := by decide +kernel
theorem dX9_victim_18 : decode cX9_victim 18 = .ok (.iconst (-1), 1) := by decide +kernel
theorem dX9_victim_19 : decode cX9_victim 19 = .ok (.goto 8, 3) := by decide +kernel
theorem dX9_victim_22 : decode cX9_victim 22 = .ok (.aload_n 0, 1) := by decide +kernel
theorem dX9_victim_23 : decode cX9_victim 23 = .ok (.iload_n 1, 1) := by decide +kernel
theorem dX9_victim_24 : decode cX9_victim 24 = .ok (.invokevirtual 410, 3) := by decide +kernel
theorem dX9_victim_27 : decode cX9_victim 27 = .ok (.ireturn, 1) := by decide +kernel
theorem dX9_count_0 : decode cX9_count 0 = .ok (.aload_n 0, 1) := by decide +kernel
theorem dX9_count_1 : decode cX9_count 1 = .ok (.iconst 0, 1) := by decide +kernel
theorem dX9_count_2 : decode cX9_count 2 = .ok (.putfield 82, 3) := by decide +kernel
theorem dX9_count_5 : decode cX9_count 5 = .ok (.iload_n 1, 1) := by decide +kernel
theorem dX9_count_6 : decode cX9_count 6 = .ok (.i2l, 1) := by decide +kernel
theorem dX9_count_7 : decode cX9_count 7 = .ok (.lconst 0, 1) := by decide +kernel
theorem dX9_count_8 : decode cX9_count 8 = .ok (.ldc2_w 177, 3) := by decide +kernel
theorem dX9_count_11 : decode cX9_count 11 = .ok (.invokestatic 90, 3) := by decide +kernel
theorem dX9_count_14 : decode cX9_count 14 = .ok (.ifCond .eq 16, 3) := by decide +kernel
theorem dX9_count_17 : decode cX9_count 17 = .ok (.aload_n 0, 1) := by decide +kernel
theorem dX9_count_18 : decode cX9_count 18 = .ok (.getfield 7, 3) := by decide +kernel
theorem dX9_count_21 : decode cX9_count 21 = .ok (.bipush 10, 2) := by decide +kernel
theorem dX9_count_23 : decode cX9_count 23 = .ok (.iload_n 1, 1) := by decide +kernel
theorem dX9_count_24 : decode cX9_count 24 = .ok (.iadd, 1) := by decide +kernel
theorem dX9_count_25 : decode cX9_count 25 = .ok (.laload, 1) := by decide +kernel
theorem dX9_count_26 : decode cX9_count 26 = .ok (.l2i, 1) := by decide +kernel
theorem dX9_count_27 : decode cX9_count 27 = .ok (.goto 8, 3) := by decide +kernel
theorem dX9_count_30 : decode cX9_count 30 = .ok (.aload_n 0, 1) := by decide +kernel
theorem dX9_count_31 : decode cX9_count 31 = .ok (.iconst 1, 1) := by decide +kernel
theorem dX9_count_32 : decode cX9_count 32 = .ok (.invokevirtual 166, 3) := by decide +kernel
theorem dX9_count_35 : decode cX9_count 35 = .ok (.ireturn, 1) := by decide +kernel
theorem dX9_save_0 : decode cX9_save 0 = .ok (.aload_n 0, 1) := by decide +kernel
theorem dX9_save_1 : decode cX9_save 1 = .ok (.iconst 0, 1) := by decide +kernel
theorem dX9_save_2 : decode cX9_save 2 = .ok (.putfield 82, 3) := by decide +kernel
theorem dX9_save_5 : decode cX9_save 5 = .ok (.iload_n 1, 1) := by decide +kernel
theorem dX9_save_6 : decode cX9_save 6 = .ok (.i2l, 1) := by decide +kernel
theorem dX9_save_7 : decode cX9_save 7 = .ok (.lconst 0, 1) := by decide +kernel
theorem dX9_save_8 : decode cX9_save 8 = .ok (.lconst 1, 1) := by decide +kernel
theorem dX9_save_9 : decode cX9_save 9 = .ok (.invokestatic 90, 3) := by decide +kernel
theorem dX9_save_12 : decode cX9_save 12 = .ok (.ifCond .ne 9, 3) := by decide +kernel
theorem dX9_save_15 : decode cX9_save 15 = .ok (.aload_n 0, 1) := by decide +kernel
theorem dX9_save_16 : decode cX9_save 16 = .ok (.iconst 1, 1) := by decide +kernel
theorem dX9_save_17 : decode cX9_save 17 = .ok (.invokevirtual 166, 3) := by decide +kernel
theorem dX9_save_20 : decode cX9_save 20 = .ok (.ireturn, 1) := by decide +kernel
theorem dX9_save_21 : decode cX9_save 21 = .ok (.iconst 0, 1) := by decide +kernel
theorem dX9_save_22 : decode cX9_save 22 = .ok (.istore_n 2, 1) := by decide +kernel
theorem dX9_save_23 : decode cX9_save 23 = .ok (.iload_n 2, 1) := by decide +kernel
theorem dX9_save_24 : decode cX9_save 24 = .ok (.sipush 8400, 3) := by decide +kernel
theorem dX9_save_27 : decode cX9_save 27 = .ok (.if_icmp .ge 27, 3) := by decide +kernel
theorem dX9_save_30 : decode cX9_save 30 = .ok (.aload_n 0, 1) := by decide +kernel
theorem dX9_save_31 : decode cX9_save 31 = .ok (.getfield 13, 3) := by decide +kernel
theorem dX9_save_34 : decode cX9_save 34 = .ok (.sipush 8400, 3) := by decide +kernel
theorem dX9_save_37 : decode cX9_save 37 = .ok (.iload_n 1, 1) := by decide +kernel
theorem dX9_save_38 : decode cX9_save 38 = .ok (.imul, 1) := by decide +kernel
theorem dX9_save_39 : decode cX9_save 39 = .ok (.iload_n 2, 1) := by decide +kernel
theorem dX9_save_40 : decode cX9_save 40 = .ok (.iadd, 1) := by decide +kernel
theorem dX9_save_41 : decode cX9_save 41 = .ok (.aload_n 0, 1) := by decide +kernel
theorem dX9_save_42 : decode cX9_save 42 = .ok (.getfield 7, 3) := by decide +kernel
theorem dX9_save_45 : decode cX9_save 45 = .ok (.iload_n 2, 1) := by decide +kernel
theorem dX9_save_46 : decode cX9_save 46 = .ok (.laload, 1) := by decide +kernel
theorem dX9_save_47 : decode cX9_save 47 = .ok (.lastore, 1) := by decide +kernel
theorem dX9_save_48 : decode cX9_save 48 = .ok (.iinc 2 1, 3) := by decide +kernel
theorem dX9_save_51 : decode cX9_save 51 = .ok (.goto (-28), 3) := by decide +kernel
theorem dX9_save_54 : decode cX9_save 54 = .ok (.aload_n 0, 1) := by decide +kernel
theorem dX9_save_55 : decode cX9_save 55 = .ok (.getfield 16, 3) := by decide +kernel
theorem dX9_save_58 : decode cX9_save 58 = .ok (.iload_n 1, 1) := by decide +kernel
theorem dX9_save_59 : decode cX9_save 59 = .ok (.iconst 1, 1) := by decide +kernel
theorem dX9_save_60 : decode cX9_save 60 = .ok (.bastore, 1) := by decide +kernel
theorem dX9_save_61 : decode cX9_save 61 = .ok (.aload_n 0, 1) := by decide +kernel
theorem dX9_save_62 : decode cX9_save 62 = .ok (.getfield 7, 3) := by decide +kernel
theorem dX9_save_65 : decode cX9_save 65 = .ok (.iconst 5, 1) := by decide +kernel
theorem dX9_save_66 : decode cX9_save 66 = .ok (.laload, 1) := by decide +kernel
theorem dX9_save_67 : decode cX9_save 67 = .ok (.l2i, 1) := by decide +kernel
theorem dX9_save_68 : decode cX9_save 68 = .ok (.ireturn, 1) := by decide +kernel
theorem dX9_restore_0 : decode cX9_restore 0 = .ok (.aload_n 0, 1) := by decide +kernel
theorem dX9_restore_1 : decode cX9_restore 1 = .ok (.iconst 0, 1) := by decide +kernel
theorem dX9_restore_2 : decode cX9_restore 2 = .ok (.putfield 82, 3) := by decide +kernel
theorem dX9_restore_5 : decode cX9_restore 5 = .ok (.iload_n 1, 1) := by decide +kernel
theorem dX9_restore_6 : decode cX9_restore 6 = .ok (.i2l, 1) := by decide +kernel
theorem dX9_restore_7 : decode cX9_restore 7 = .ok (.lconst 0, 1) := by decide +kernel
theorem dX9_restore_8 : decode cX9_restore 8 = .ok (.lconst 1, 1) := by decide +kernel
theorem dX9_restore_9 : decode cX9_restore 9 = .ok (.invokestatic 90, 3) := by decide +kernel
theorem dX9_restore_12 : decode cX9_restore 12 = .ok (.ifCond .ne 9, 3) := by decide +kernel
theorem dX9_restore_15 : decode cX9_restore 15 = .ok (.aload_n 0, 1) := by decide +kernel
theorem dX9_restore_16 : decode cX9_restore 16 = .ok (.iconst 1, 1) := by decide +kernel
theorem dX9_restore_17 : decode cX9_restore 17 = .ok (.invokevirtual 166, 3) := by decide +kernel
theorem dX9_restore_20 : decode cX9_restore 20 = .ok (.ireturn, 1) := by decide +kernel
theorem dX9_restore_21 : decode cX9_restore 21 = .ok (.aload_n 0, 1) := by decide +kernel
theorem dX9_restore_22 : decode cX9_restore 22 = .ok (.getfield 16, 3) := by decide +kernel
theorem dX9_restore_25 : decode cX9_restore 25 = .ok (.iload_n 1, 1) := by decide +kernel
theorem dX9_restore_26 : decode cX9_restore 26 = .ok (.baload, 1) := by decide +kernel
theorem dX9_restore_27 : decode cX9_restore 27 = .ok (.ifCond .ne 9, 3) := by decide +kernel
theorem dX9_restore_30 : decode cX9_restore 30 = .ok (.aload_n 0, 1) := by decide +kernel
theorem dX9_restore_31 : decode cX9_restore 31 = .ok (.iconst 2, 1) := by decide +kernel
theorem dX9_restore_32 : decode cX9_restore 32 = .ok (.invokevirtual 166, 3) := by decide +kernel
theorem dX9_restore_35 : decode cX9_restore 35 = .ok (.ireturn, 1) := by decide +kernel
theorem dX9_restore_36 : decode cX9_restore 36 = .ok (.iconst 0, 1) := by decide +kernel
theorem dX9_restore_37 : decode cX9_restore 37 = .ok (.istore_n 2, 1) := by decide +kernel
theorem dX9_restore_38 : decode cX9_restore 38 = .ok (.iload_n 2, 1) := by decide +kernel
theorem dX9_restore_39 : decode cX9_restore 39 = .ok (.sipush 8400, 3) := by decide +kernel
theorem dX9_restore_42 : decode cX9_restore 42 = .ok (.if_icmp .ge 27, 3) := by decide +kernel
theorem dX9_restore_45 : decode cX9_restore 45 = .ok (.aload_n 0, 1) := by decide +kernel
theorem dX9_restore_46 : decode cX9_restore 46 = .ok (.getfield 7, 3) := by decide +kernel
theorem dX9_restore_49 : decode cX9_restore 49 = .ok (.iload_n 2, 1) := by decide +kernel
theorem dX9_restore_50 : decode cX9_restore 50 = .ok (.aload_n 0, 1) := by decide +kernel
theorem dX9_restore_51 : decode cX9_restore 51 = .ok (.getfield 13, 3) := by decide +kernel
theorem dX9_restore_54 : decode cX9_restore 54 = .ok (.sipush 8400, 3) := by decide +kernel
theorem dX9_restore_57 : decode cX9_restore 57 = .ok (.iload_n 1, 1) := by decide +kernel
theorem dX9_restore_58 : decode cX9_restore 58 = .ok (.imul, 1) := by decide +kernel
theorem dX9_restore_59 : decode cX9_restore 59 = .ok (.iload_n 2, 1) := by decide +kernel
theorem dX9_restore_60 : decode cX9_restore 60 = .ok (.iadd, 1) := by decide +kernel
theorem dX9_restore_61 : decode cX9_restore 61 = .ok (.laload, 1) := by decide +kernel
theorem dX9_restore_62 : decode cX9_restore 62 = .ok (.lastore, 1) := by decide +kernel
theorem dX9_restore_63 : decode cX9_restore 63 = .ok (.iinc 2 1, 3) := by decide +kernel
theorem dX9_restore_66 : decode cX9_restore 66 = .ok (.goto (-28), 3) := by decide +kernel
theorem dX9_restore_69 : decode cX9_restore 69 = .ok (.aload_n 0, 1) := by decide +kernel
theorem dX9_restore_70 : decode cX9_restore 70 = .ok (.getfield 7, 3) := by decide +kernel
theorem dX9_restore_73 : decode cX9_restore 73 = .ok (.iconst 5, 1) := by decide +kernel
theorem dX9_restore_74 : decode cX9_restore 74 = .ok (.laload, 1) := by decide +kernel
theorem dX9_restore_75 : decode cX9_restore 75 = .ok (.l2i, 1) := by decide +kernel
theorem dX9_restore_76 : decode cX9_restore 76 = .ok (.ireturn, 1) := by decide +kernel
theorem dX9_mixes_0 : decode cX9_mixes 0 = .ok (.lload_n 1, 1) := by decide +kernel
theorem dX9_mixes_1 : decode cX9_mixes 1 = .ok (.lstore 6, 2) := by decide +kernel
theorem dX9_mixes_3 : decode cX9_mixes 3 = .ok (.iconst 0, 1) := by decide +kernel
theorem dX9_mixes_4 : decode cX9_mixes 4 = .ok (.istore 8, 2) := by decide +kernel
theorem dX9_mixes_6 : decode cX9_mixes 6 = .ok (.iload 8, 2) := by decide +kernel
theorem dX9_mixes_8 : decode cX9_mixes 8 = .ok (.i2l, 1) := by decide +kernel
theorem dX9_mixes_9 : decode cX9_mixes 9 = .ok (.lload 4, 2) := by decide +kernel
theorem dX9_mixes_11 : decode cX9_mixes 11 = .ok (.lcmp, 1) := by decide +kernel
theorem dX9_mixes_12 : decode cX9_mixes 12 = .ok (.ifCond .ge 27, 3) := by decide +kernel
theorem dX9_mixes_15 : decode cX9_mixes 15 = .ok (.ldc2_w 208, 3) := by decide +kernel
theorem dX9_mixes_18 : decode cX9_mixes 18 = .ok (.lload 6, 2) := by decide +kernel
theorem dX9_mixes_20 : decode cX9_mixes 20 = .ok (.lmul, 1) := by decide +kernel
theorem dX9_mixes_21 : decode cX9_mixes 21 = .ok (.aload_n 0, 1) := by decide +kernel
theorem dX9_mixes_22 : decode cX9_mixes 22 = .ok (.getfield 7, 3) := by decide +kernel
theorem dX9_mixes_25 : decode cX9_mixes 25 = .ok (.iload_n 3, 1) := by decide +kernel
theorem dX9_mixes_26 : decode cX9_mixes 26 = .ok (.iload 8, 2) := by decide +kernel
theorem dX9_mixes_28 : decode cX9_mixes 28 = .ok (.iadd, 1) := by decide +kernel
theorem dX9_mixes_29 : decode cX9_mixes 29 = .ok (.laload, 1) := by decide +kernel
theorem dX9_mixes_30 : decode cX9_mixes 30 = .ok (.ladd, 1) := by decide +kernel
theorem dX9_mixes_31 : decode cX9_mixes 31 = .ok (.lstore 6, 2) := by decide +kernel
theorem dX9_mixes_33 : decode cX9_mixes 33 = .ok (.iinc 8 1, 3) := by decide +kernel
theorem dX9_mixes_36 : decode cX9_mixes 36 = .ok (.goto (-30), 3) := by decide +kernel
theorem dX9_mixes_39 : decode cX9_mixes 39 = .ok (.lload 6, 2) := by decide +kernel
theorem dX9_mixes_41 : decode cX9_mixes 41 = .ok (.lreturn, 1) := by decide +kernel
theorem dX9_fingerprint_0 : decode cX9_fingerprint 0 = .ok (.aload_n 0, 1) := by decide +kernel
theorem dX9_fingerprint_1 : decode cX9_fingerprint 1 = .ok (.iconst 0, 1) := by decide +kernel
theorem dX9_fingerprint_2 : decode cX9_fingerprint 2 = .ok (.putfield 82, 3) := by decide +kernel
theorem dX9_fingerprint_5 : decode cX9_fingerprint 5 = .ok (.ldc2_w 431, 3) := by decide +kernel
theorem dX9_fingerprint_8 : decode cX9_fingerprint 8 = .ok (.aload_n 0, 1) := by decide +kernel
theorem dX9_fingerprint_9 : decode cX9_fingerprint 9 = .ok (.getfield 7, 3) := by decide +kernel
theorem dX9_fingerprint_12 : decode cX9_fingerprint 12 = .ok (.iconst 0, 1) := by decide +kernel
theorem dX9_fingerprint_13 : decode cX9_fingerprint 13 = .ok (.laload, 1) := by decide +kernel
theorem dX9_fingerprint_14 : decode cX9_fingerprint 14 = .ok (.ladd, 1) := by decide +kernel
theorem dX9_fingerprint_15 : decode cX9_fingerprint 15 = .ok (.lstore_n 1, 1) := by decide +kernel
theorem dX9_fingerprint_16 : decode cX9_fingerprint 16 = .ok (.iconst 0, 1) := by decide +kernel
theorem dX9_fingerprint_17 : decode cX9_fingerprint 17 = .ok (.istore_n 3, 1) := by decide +kernel
theorem dX9_fingerprint_18 : decode cX9_fingerprint 18 = .ok (.iload_n 3, 1) := by decide +kernel
theorem dX9_fingerprint_19 : decode cX9_fingerprint 19 = .ok (.i2l, 1) := by decide +kernel
theorem dX9_fingerprint_20 : decode cX9_fingerprint 20 = .ok (.aload_n 0, 1) := by decide +kernel
theorem dX9_fingerprint_21 : decode cX9_fingerprint 21 = .ok (.getfield 7, 3) := by decide +kernel
theorem dX9_fingerprint_24 : decode cX9_fingerprint 24 = .ok (.iconst 5, 1) := by decide +kernel
theorem dX9_fingerprint_25 : decode cX9_fingerprint 25 = .ok (.laload, 1) := by decide +kernel
theorem dX9_fingerprint_26 : decode cX9_fingerprint 26 = .ok (.lcmp, 1) := by decide +kernel
theorem dX9_fingerprint_27 : decode cX9_fingerprint 27 = .ok (.ifCond .ge 110, 3) := by decide +kernel
theorem dX9_fingerprint_30 : decode cX9_fingerprint 30 = .ok (.aload_n 0, 1) := by decide +kernel
theorem dX9_fingerprint_31 : decode cX9_fingerprint 31 = .ok (.iload_n 3, 1) := by decide +kernel
theorem dX9_fingerprint_32 : decode cX9_fingerprint 32 = .ok (.invokevirtual 413, 3) := by decide +kernel
theorem dX9_fingerprint_35 : decode cX9_fingerprint 35 = .ok (.invokestatic 324, 3) := by decide +kernel
theorem dX9_fingerprint_38 : decode cX9_fingerprint 38 = .ok (.istore 4, 2) := by decide +kernel
theorem dX9_fingerprint_40 : decode cX9_fingerprint 40 = .ok (.aload_n 0, 1) := by decide +kernel
theorem dX9_fingerprint_41 : decode cX9_fingerprint 41 = .ok (.lload_n 1, 1) := by decide +kernel
theorem dX9_fingerprint_42 : decode cX9_fingerprint 42 = .ok (.iload 4, 2) := by decide +kernel
theorem dX9_fingerprint_44 : decode cX9_fingerprint 44 = .ok (.bipush 14, 2) := by decide +kernel
theorem dX9_fingerprint_46 : decode cX9_fingerprint 46 = .ok (.iadd, 1) := by decide +kernel
theorem dX9_fingerprint_47 : decode cX9_fingerprint 47 = .ok (.aload_n 0, 1) := by decide +kernel
theorem dX9_fingerprint_48 : decode cX9_fingerprint 48 = .ok (.getfield 7, 3) := by decide +kernel
theorem dX9_fingerprint_51 : decode cX9_fingerprint 51 = .ok (.iload 4, 2) := by decide +kernel
theorem dX9_fingerprint_53 : decode cX9_fingerprint 53 = .ok (.laload, 1) := by decide +kernel
theorem dX9_fingerprint_54 : decode cX9_fingerprint 54 = .ok (.invokevirtual 433, 3) := by decide +kernel
theorem dX9_fingerprint_57 : decode cX9_fingerprint 57 = .ok (.lstore_n 1, 1) := by decide +kernel
theorem dX9_fingerprint_58 : decode cX9_fingerprint 58 = .ok (.aload_n 0, 1) := by decide +kernel
theorem dX9_fingerprint_59 : decode cX9_fingerprint 59 = .ok (.lload_n 1, 1) := by decide +kernel
theorem dX9_fingerprint_60 : decode cX9_fingerprint 60 = .ok (.iload 4, 2) := by decide +kernel
theorem dX9_fingerprint_62 : decode cX9_fingerprint 62 = .ok (.bipush 30, 2) := by decide +kernel
theorem dX9_fingerprint_64 : decode cX9_fingerprint 64 = .ok (.iadd, 1) := by decide +kernel
theorem dX9_fingerprint_65 : decode cX9_fingerprint 65 = .ok (.aload_n 0, 1) := by decide +kernel
theorem dX9_fingerprint_66 : decode cX9_fingerprint 66 = .ok (.getfield 7, 3) := by decide +kernel
theorem dX9_fingerprint_69 : decode cX9_fingerprint 69 = .ok (.iload 4, 2) := by decide +kernel
theorem dX9_fingerprint_71 : decode cX9_fingerprint 71 = .ok (.iconst 1, 1) := by decide +kernel
theorem dX9_fingerprint_72 : decode cX9_fingerprint 72 = .ok (.iadd, 1) := by decide +kernel
theorem dX9_fingerprint_73 : decode cX9_fingerprint 73 = .ok (.laload, 1) := by decide +kernel
theorem dX9_fingerprint_74 : decode cX9_fingerprint 74 = .ok (.invokevirtual 433, 3) := by decide +kernel
theorem dX9_fingerprint_77 : decode cX9_fingerprint 77 = .ok (.lstore_n 1, 1) := by decide +kernel
theorem dX9_fingerprint_78 : decode cX9_fingerprint 78 = .ok (.aload_n 0, 1) := by decide +kernel
theorem dX9_fingerprint_79 : decode cX9_fingerprint 79 = .ok (.lload_n 1, 1) := by decide +kernel
theorem dX9_fingerprint_80 : decode cX9_fingerprint 80 = .ok (.iload 4, 2) := by decide +kernel
theorem dX9_fingerprint_82 : decode cX9_fingerprint 82 = .ok (.bipush 62, 2) := by decide +kernel
theorem dX9_fingerprint_84 : decode cX9_fingerprint 84 = .ok (.iadd, 1) := by decide +kernel
theorem dX9_fingerprint_85 : decode cX9_fingerprint 85 = .ok (.aload_n 0, 1) := by decide +kernel
theorem dX9_fingerprint_86 : decode cX9_fingerprint 86 = .ok (.getfield 7, 3) := by decide +kernel
theorem dX9_fingerprint_89 : decode cX9_fingerprint 89 = .ok (.iload 4, 2) := by decide +kernel
theorem dX9_fingerprint_91 : decode cX9_fingerprint 91 = .ok (.iconst 2, 1) := by decide +kernel
theorem dX9_fingerprint_92 : decode cX9_fingerprint 92 = .ok (.iadd, 1) := by decide +kernel
theorem dX9_fingerprint_93 : decode cX9_fingerprint 93 = .ok (.laload, 1) := by decide +kernel
theorem dX9_fingerprint_94 : decode cX9_fingerprint 94 = .ok (.invokevirtual 433, 3) := by decide +kernel
theorem dX9_fingerprint_97 : decode cX9_fingerprint 97 = .ok (.lstore_n 1, 1) := by decide +kernel
theorem dX9_fingerprint_98 : decode cX9_fingerprint 98 = .ok (.aload_n 0, 1) := by decide +kernel
theorem dX9_fingerprint_99 : decode cX9_fingerprint 99 = .ok (.lload_n 1, 1) := by decide +kernel
theorem dX9_fingerprint_100 : decode cX9_fingerprint 100 = .ok (.iload 4, 2) := by decide +kernel
theorem dX9_fingerprint_102 : decode cX9_fingerprint 102 = .ok (.bipush 92, 2) := by decide +kernel
theorem dX9_fingerprint_104 : decode cX9_fingerprint 104 = .ok (.iadd, 1) := by decide +kernel
theorem dX9_fingerprint_105 : decode cX9_fingerprint 105 = .ok (.aload_n 0, 1) := by decide +kernel
theorem dX9_fingerprint_106 : decode cX9_fingerprint 106 = .ok (.getfield 7, 3) := by decide +kernel
theorem dX9_fingerprint_109 : decode cX9_fingerprint 109 = .ok (.iload 4, 2) := by decide +kernel
theorem dX9_fingerprint_111 : decode cX9_fingerprint 111 = .ok (.iconst 3, 1) := by decide +kernel
theorem dX9_fingerprint_112 : decode cX9_fingerprint 112 = .ok (.iadd, 1) := by decide +kernel
theorem dX9_fingerprint_113 : decode cX9_fingerprint 113 = .ok (.laload, 1) := by decide +kernel
theorem dX9_fingerprint_114 : decode cX9_fingerprint 114 = .ok (.invokevirtual 433, 3) := by decide +kernel
theorem dX9_fingerprint_117 : decode cX9_fingerprint 117 = .ok (.lstore_n 1, 1) := by decide +kernel
theorem dX9_fingerprint_118 : decode cX9_fingerprint 118 = .ok (.aload_n 0, 1) := by decide +kernel
theorem dX9_fingerprint_119 : decode cX9_fingerprint 119 = .ok (.lload_n 1, 1) := by decide +kernel
theorem dX9_fingerprint_120 : decode cX9_fingerprint 120 = .ok (.iload 4, 2) := by decide +kernel
theorem dX9_fingerprint_122 : decode cX9_fingerprint 122 = .ok (.iconst 4, 1) := by decide +kernel
theorem dX9_fingerprint_123 : decode cX9_fingerprint 123 = .ok (.iadd, 1) := by decide +kernel
theorem dX9_fingerprint_124 : decode cX9_fingerprint 124 = .ok (.ldc2_w 189, 3) := by decide +kernel
theorem dX9_fingerprint_127 : decode cX9_fingerprint 127 = .ok (.invokevirtual 433, 3) := by decide +kernel
theorem dX9_fingerprint_130 : decode cX9_fingerprint 130 = .ok (.lstore_n 1, 1) := by decide +kernel
theorem dX9_fingerprint_131 : decode cX9_fingerprint 131 = .ok (.iinc 3 1, 3) := by decide +kernel
theorem dX9_fingerprint_134 : decode cX9_fingerprint 134 = .ok (.goto (-116), 3) := by decide +kernel
theorem dX9_fingerprint_137 : decode cX9_fingerprint 137 = .ok (.aload_n 0, 1) := by decide +kernel
theorem dX9_fingerprint_138 : decode cX9_fingerprint 138 = .ok (.lload_n 1, 1) := by decide +kernel
theorem dX9_fingerprint_139 : decode cX9_fingerprint 139 = .ok (.bipush 10, 2) := by decide +kernel
theorem dX9_fingerprint_141 : decode cX9_fingerprint 141 = .ok (.ldc2_w 437, 3) := by decide +kernel
theorem dX9_fingerprint_144 : decode cX9_fingerprint 144 = .ok (.invokevirtual 433, 3) := by decide +kernel
theorem dX9_fingerprint_147 : decode cX9_fingerprint 147 = .ok (.lreturn, 1) := by decide +kernel
