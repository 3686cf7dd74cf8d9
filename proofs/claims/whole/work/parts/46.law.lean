def M_LW_law : x_M := (⟨"QuestionReaderLaw", "law", "([I)Z"⟩, code, 7, some (.boolean), [])
theorem d_LW_law_0 : decode M_LW_law.2.1 0 = .ok (.new 8, 3) := by decide +kernel
theorem d_LW_law_3 : decode M_LW_law.2.1 3 = .ok (.dup, 1) := by decide +kernel
theorem d_LW_law_4 : decode M_LW_law.2.1 4 = .ok (.invokespecial 60, 3) := by decide +kernel
theorem d_LW_law_7 : decode M_LW_law.2.1 7 = .ok (.astore_n 1, 1) := by decide +kernel
theorem d_LW_law_8 : decode M_LW_law.2.1 8 = .ok (.new 61, 3) := by decide +kernel
theorem d_LW_law_11 : decode M_LW_law.2.1 11 = .ok (.dup, 1) := by decide +kernel
theorem d_LW_law_12 : decode M_LW_law.2.1 12 = .ok (.invokespecial 63, 3) := by decide +kernel
theorem d_LW_law_15 : decode M_LW_law.2.1 15 = .ok (.astore_n 2, 1) := by decide +kernel
theorem d_LW_law_16 : decode M_LW_law.2.1 16 = .ok (.iconst 1, 1) := by decide +kernel
theorem d_LW_law_17 : decode M_LW_law.2.1 17 = .ok (.newarray .long, 2) := by decide +kernel
theorem d_LW_law_19 : decode M_LW_law.2.1 19 = .ok (.astore_n 3, 1) := by decide +kernel
theorem d_LW_law_20 : decode M_LW_law.2.1 20 = .ok (.iconst 0, 1) := by decide +kernel
theorem d_LW_law_21 : decode M_LW_law.2.1 21 = .ok (.istore 4, 2) := by decide +kernel
theorem d_LW_law_23 : decode M_LW_law.2.1 23 = .ok (.iload 4, 2) := by decide +kernel
theorem d_LW_law_25 : decode M_LW_law.2.1 25 = .ok (.aload_n 0, 1) := by decide +kernel
theorem d_LW_law_26 : decode M_LW_law.2.1 26 = .ok (.arraylength, 1) := by decide +kernel
theorem d_LW_law_27 : decode M_LW_law.2.1 27 = .ok (.bipush 6, 2) := by decide +kernel
theorem d_LW_law_29 : decode M_LW_law.2.1 29 = .ok (.isub, 1) := by decide +kernel
theorem d_LW_law_30 : decode M_LW_law.2.1 30 = .ok (.if_icmp .gt 1057, 3) := by decide +kernel
theorem d_LW_law_33 : decode M_LW_law.2.1 33 = .ok (.aload_n 0, 1) := by decide +kernel
theorem d_LW_law_34 : decode M_LW_law.2.1 34 = .ok (.iload 4, 2) := by decide +kernel
theorem d_LW_law_36 : decode M_LW_law.2.1 36 = .ok (.iaload, 1) := by decide +kernel
theorem d_LW_law_37 : decode M_LW_law.2.1 37 = .ok (.bipush 15, 2) := by decide +kernel
theorem d_LW_law_39 : decode M_LW_law.2.1 39 = .ok (.iand, 1) := by decide +kernel
theorem d_LW_law_40 : decode M_LW_law.2.1 40 = .ok (.tableswitch 1041 0 15 #[80, 184, 240, 253, 309, 322, 378, 446, 526, 606, 674, 742, 810, 866, 922, 990], 80) := by decide +kernel
theorem d_LW_law_120 : decode M_LW_law.2.1 120 = .ok (.aload_n 1, 1) := by decide +kernel
theorem d_LW_law_121 : decode M_LW_law.2.1 121 = .ok (.aload_n 0, 1) := by decide +kernel
theorem d_LW_law_122 : decode M_LW_law.2.1 122 = .ok (.iload 4, 2) := by decide +kernel
theorem d_LW_law_124 : decode M_LW_law.2.1 124 = .ok (.iconst 1, 1) := by decide +kernel
theorem d_LW_law_125 : decode M_LW_law.2.1 125 = .ok (.iadd, 1) := by decide +kernel
theorem d_LW_law_126 : decode M_LW_law.2.1 126 = .ok (.iaload, 1) := by decide +kernel
theorem d_LW_law_127 : decode M_LW_law.2.1 127 = .ok (.aload_n 0, 1) := by decide +kernel
theorem d_LW_law_128 : decode M_LW_law.2.1 128 = .ok (.iload 4, 2) := by decide +kernel
theorem d_LW_law_130 : decode M_LW_law.2.1 130 = .ok (.iconst 2, 1) := by decide +kernel
theorem d_LW_law_131 : decode M_LW_law.2.1 131 = .ok (.iadd, 1) := by decide +kernel
theorem d_LW_law_132 : decode M_LW_law.2.1 132 = .ok (.iaload, 1) := by decide +kernel
theorem d_LW_law_133 : decode M_LW_law.2.1 133 = .ok (.aload_n 0, 1) := by decide +kernel
theorem d_LW_law_134 : decode M_LW_law.2.1 134 = .ok (.iload 4, 2) := by decide +kernel
theorem d_LW_law_136 : decode M_LW_law.2.1 136 = .ok (.iconst 3, 1) := by decide +kernel
theorem d_LW_law_137 : decode M_LW_law.2.1 137 = .ok (.iadd, 1) := by decide +kernel
theorem d_LW_law_138 : decode M_LW_law.2.1 138 = .ok (.iaload, 1) := by decide +kernel
theorem d_LW_law_139 : decode M_LW_law.2.1 139 = .ok (.aload_n 0, 1) := by decide +kernel
theorem d_LW_law_140 : decode M_LW_law.2.1 140 = .ok (.iload 4, 2) := by decide +kernel
theorem d_LW_law_142 : decode M_LW_law.2.1 142 = .ok (.iconst 4, 1) := by decide +kernel
theorem d_LW_law_143 : decode M_LW_law.2.1 143 = .ok (.iadd, 1) := by decide +kernel
theorem d_LW_law_144 : decode M_LW_law.2.1 144 = .ok (.iaload, 1) := by decide +kernel
theorem d_LW_law_145 : decode M_LW_law.2.1 145 = .ok (.aload_n 0, 1) := by decide +kernel
theorem d_LW_law_146 : decode M_LW_law.2.1 146 = .ok (.iload 4, 2) := by decide +kernel
theorem d_LW_law_148 : decode M_LW_law.2.1 148 = .ok (.iconst 5, 1) := by decide +kernel
theorem d_LW_law_149 : decode M_LW_law.2.1 149 = .ok (.iadd, 1) := by decide +kernel
theorem d_LW_law_150 : decode M_LW_law.2.1 150 = .ok (.iaload, 1) := by decide +kernel
theorem d_LW_law_151 : decode M_LW_law.2.1 151 = .ok (.aload_n 3, 1) := by decide +kernel
theorem d_LW_law_152 : decode M_LW_law.2.1 152 = .ok (.invokestatic 64, 3) := by decide +kernel
theorem d_LW_law_155 : decode M_LW_law.2.1 155 = .ok (.istore 5, 2) := by decide +kernel
theorem d_LW_law_157 : decode M_LW_law.2.1 157 = .ok (.aload_n 2, 1) := by decide +kernel
theorem d_LW_law_158 : decode M_LW_law.2.1 158 = .ok (.aload_n 0, 1) := by decide +kernel
theorem d_LW_law_159 : decode M_LW_law.2.1 159 = .ok (.iload 4, 2) := by decide +kernel
theorem d_LW_law_161 : decode M_LW_law.2.1 161 = .ok (.iconst 1, 1) := by decide +kernel
theorem d_LW_law_162 : decode M_LW_law.2.1 162 = .ok (.iadd, 1) := by decide +kernel
theorem d_LW_law_163 : decode M_LW_law.2.1 163 = .ok (.iaload, 1) := by decide +kernel
theorem d_LW_law_164 : decode M_LW_law.2.1 164 = .ok (.aload_n 0, 1) := by decide +kernel
theorem d_LW_law_165 : decode M_LW_law.2.1 165 = .ok (.iload 4, 2) := by decide +kernel
theorem d_LW_law_167 : decode M_LW_law.2.1 167 = .ok (.iconst 2, 1) := by decide +kernel
theorem d_LW_law_168 : decode M_LW_law.2.1 168 = .ok (.iadd, 1) := by decide +kernel
theorem d_LW_law_169 : decode M_LW_law.2.1 169 = .ok (.iaload, 1) := by decide +kernel
theorem d_LW_law_170 : decode M_LW_law.2.1 170 = .ok (.aload_n 0, 1) := by decide +kernel
theorem d_LW_law_171 : decode M_LW_law.2.1 171 = .ok (.iload 4, 2) := by decide +kernel
theorem d_LW_law_173 : decode M_LW_law.2.1 173 = .ok (.iconst 3, 1) := by decide +kernel
theorem d_LW_law_174 : decode M_LW_law.2.1 174 = .ok (.iadd, 1) := by decide +kernel
theorem d_LW_law_175 : decode M_LW_law.2.1 175 = .ok (.iaload, 1) := by decide +kernel
theorem d_LW_law_176 : decode M_LW_law.2.1 176 = .ok (.aload_n 0, 1) := by decide +kernel
theorem d_LW_law_177 : decode M_LW_law.2.1 177 = .ok (.iload 4, 2) := by decide +kernel
theorem d_LW_law_179 : decode M_LW_law.2.1 179 = .ok (.iconst 4, 1) := by decide +kernel
theorem d_LW_law_180 : decode M_LW_law.2.1 180 = .ok (.iadd, 1) := by decide +kernel
theorem d_LW_law_181 : decode M_LW_law.2.1 181 = .ok (.iaload, 1) := by decide +kernel
theorem d_LW_law_182 : decode M_LW_law.2.1 182 = .ok (.aload_n 0, 1) := by decide +kernel
theorem d_LW_law_183 : decode M_LW_law.2.1 183 = .ok (.iload 4, 2) := by decide +kernel
theorem d_LW_law_185 : decode M_LW_law.2.1 185 = .ok (.iconst 5, 1) := by decide +kernel
theorem d_LW_law_186 : decode M_LW_law.2.1 186 = .ok (.iadd, 1) := by decide +kernel
theorem d_LW_law_187 : decode M_LW_law.2.1 187 = .ok (.iaload, 1) := by decide +kernel
theorem d_LW_law_188 : decode M_LW_law.2.1 188 = .ok (.invokevirtual 69, 3) := by decide +kernel
theorem d_LW_law_191 : decode M_LW_law.2.1 191 = .ok (.istore 6, 2) := by decide +kernel
theorem d_LW_law_193 : decode M_LW_law.2.1 193 = .ok (.aload_n 2, 1) := by decide +kernel
theorem d_LW_law_194 : decode M_LW_law.2.1 194 = .ok (.invokevirtual 70, 3) := by decide +kernel
theorem d_LW_law_197 : decode M_LW_law.2.1 197 = .ok (.iload 5, 2) := by decide +kernel
theorem d_LW_law_199 : decode M_LW_law.2.1 199 = .ok (.if_icmp .eq 5, 3) := by decide +kernel
theorem d_LW_law_202 : decode M_LW_law.2.1 202 = .ok (.iconst 0, 1) := by decide +kernel
theorem d_LW_law_203 : decode M_LW_law.2.1 203 = .ok (.ireturn, 1) := by decide +kernel
theorem d_LW_law_204 : decode M_LW_law.2.1 204 = .ok (.iload 5, 2) := by decide +kernel
theorem d_LW_law_206 : decode M_LW_law.2.1 206 = .ok (.ifCond .ne 15, 3) := by decide +kernel
theorem d_LW_law_209 : decode M_LW_law.2.1 209 = .ok (.aload_n 3, 1) := by decide +kernel
theorem d_LW_law_210 : decode M_LW_law.2.1 210 = .ok (.iconst 0, 1) := by decide +kernel
theorem d_LW_law_211 : decode M_LW_law.2.1 211 = .ok (.laload, 1) := by decide +kernel
theorem d_LW_law_212 : decode M_LW_law.2.1 212 = .ok (.iload 6, 2) := by decide +kernel
theorem d_LW_law_214 : decode M_LW_law.2.1 214 = .ok (.i2l, 1) := by decide +kernel
theorem d_LW_law_215 : decode M_LW_law.2.1 215 = .ok (.lcmp, 1) := by decide +kernel
theorem d_LW_law_216 : decode M_LW_law.2.1 216 = .ok (.ifCond .eq 5, 3) := by decide +kernel
theorem d_LW_law_219 : decode M_LW_law.2.1 219 = .ok (.iconst 0, 1) := by decide +kernel
theorem d_LW_law_220 : decode M_LW_law.2.1 220 = .ok (.ireturn, 1) := by decide +kernel
theorem d_LW_law_221 : decode M_LW_law.2.1 221 = .ok (.goto 860, 3) := by decide +kernel
theorem d_LW_law_224 : decode M_LW_law.2.1 224 = .ok (.aload_n 1, 1) := by decide +kernel
theorem d_LW_law_225 : decode M_LW_law.2.1 225 = .ok (.aload_n 0, 1) := by decide +kernel
theorem d_LW_law_226 : decode M_LW_law.2.1 226 = .ok (.iload 4, 2) := by decide +kernel
theorem d_LW_law_228 : decode M_LW_law.2.1 228 = .ok (.iconst 1, 1) := by decide +kernel
theorem d_LW_law_229 : decode M_LW_law.2.1 229 = .ok (.iadd, 1) := by decide +kernel
theorem d_LW_law_230 : decode M_LW_law.2.1 230 = .ok (.iaload, 1) := by decide +kernel
theorem d_LW_law_231 : decode M_LW_law.2.1 231 = .ok (.aload_n 3, 1) := by decide +kernel
theorem d_LW_law_232 : decode M_LW_law.2.1 232 = .ok (.invokestatic 74, 3) := by decide +kernel
theorem d_LW_law_235 : decode M_LW_law.2.1 235 = .ok (.istore 5, 2) := by decide +kernel
theorem d_LW_law_237 : decode M_LW_law.2.1 237 = .ok (.aload_n 2, 1) := by decide +kernel
theorem d_LW_law_238 : decode M_LW_law.2.1 238 = .ok (.aload_n 0, 1) := by decide +kernel
theorem d_LW_law_239 : decode M_LW_law.2.1 239 = .ok (.iload 4, 2) := by decide +kernel
theorem d_LW_law_241 : decode M_LW_law.2.1 241 = .ok (.iconst 1, 1) := by decide +kernel
theorem d_LW_law_242 : decode M_LW_law.2.1 242 = .ok (.iadd, 1) := by decide +kernel
theorem d_LW_law_243 : decode M_LW_law.2.1 243 = .ok (.iaload, 1) := by decide +kernel
theorem d_LW_law_244 : decode M_LW_law.2.1 244 = .ok (.invokevirtual 77, 3) := by decide +kernel
theorem d_LW_law_247 : decode M_LW_law.2.1 247 = .ok (.istore 6, 2) := by decide +kernel
theorem d_LW_law_249 : decode M_LW_law.2.1 249 = .ok (.aload_n 2, 1) := by decide +kernel
theorem d_LW_law_250 : decode M_LW_law.2.1 250 = .ok (.invokevirtual 70, 3) := by decide +kernel
theorem d_LW_law_253 : decode M_LW_law.2.1 253 = .ok (.iload 5, 2) := by decide +kernel
theorem d_LW_law_255 : decode M_LW_law.2.1 255 = .ok (.if_icmp .eq 5, 3) := by decide +kernel
theorem d_LW_law_258 : decode M_LW_law.2.1 258 = .ok (.iconst 0, 1) := by decide +kernel
theorem d_LW_law_259 : decode M_LW_law.2.1 259 = .ok (.ireturn, 1) := by decide +kernel
theorem d_LW_law_260 : decode M_LW_law.2.1 260 = .ok (.iload 5, 2) := by decide +kernel
theorem d_LW_law_262 : decode M_LW_law.2.1 262 = .ok (.ifCond .ne 15, 3) := by decide +kernel
theorem d_LW_law_265 : decode M_LW_law.2.1 265 = .ok (.aload_n 3, 1) := by decide +kernel
theorem d_LW_law_266 : decode M_LW_law.2.1 266 = .ok (.iconst 0, 1) := by decide +kernel
theorem d_LW_law_267 : decode M_LW_law.2.1 267 = .ok (.laload, 1) := by decide +kernel
theorem d_LW_law_268 : decode M_LW_law.2.1 268 = .ok (.iload 6, 2) := by decide +kernel
theorem d_LW_law_270 : decode M_LW_law.2.1 270 = .ok (.i2l, 1) := by decide +kernel
theorem d_LW_law_271 : decode M_LW_law.2.1 271 = .ok (.lcmp, 1) := by decide +kernel
theorem d_LW_law_272 : decode M_LW_law.2.1 272 = .ok (.ifCond .eq 5, 3) := by decide +kernel
theorem d_LW_law_275 : decode M_LW_law.2.1 275 = .ok (.iconst 0, 1) := by decide +kernel
theorem d_LW_law_276 : decode M_LW_law.2.1 276 = .ok (.ireturn, 1) := by decide +kernel
theorem d_LW_law_277 : decode M_LW_law.2.1 277 = .ok (.goto 804, 3) := by decide +kernel
theorem d_LW_law_280 : decode M_LW_law.2.1 280 = .ok (.aload_n 1, 1) := by decide +kernel
theorem d_LW_law_281 : decode M_LW_law.2.1 281 = .ok (.invokevirtual 78, 3) := by decide +kernel
theorem d_LW_law_284 : decode M_LW_law.2.1 284 = .ok (.aload_n 2, 1) := by decide +kernel
theorem d_LW_law_285 : decode M_LW_law.2.1 285 = .ok (.invokevirtual 81, 3) := by decide +kernel
theorem d_LW_law_288 : decode M_LW_law.2.1 288 = .ok (.if_icmp .eq 793, 3) := by decide +kernel
theorem d_LW_law_291 : decode M_LW_law.2.1 291 = .ok (.iconst 0, 1) := by decide +kernel
theorem d_LW_law_292 : decode M_LW_law.2.1 292 = .ok (.ireturn, 1) := by decide +kernel
theorem d_LW_law_293 : decode M_LW_law.2.1 293 = .ok (.aload_n 1, 1) := by decide +kernel
theorem d_LW_law_294 : decode M_LW_law.2.1 294 = .ok (.aload_n 0, 1) := by decide +kernel
theorem d_LW_law_295 : decode M_LW_law.2.1 295 = .ok (.iload 4, 2) := by decide +kernel
theorem d_LW_law_297 : decode M_LW_law.2.1 297 = .ok (.iconst 1, 1) := by decide +kernel
theorem d_LW_law_298 : decode M_LW_law.2.1 298 = .ok (.iadd, 1) := by decide +kernel
theorem d_LW_law_299 : decode M_LW_law.2.1 299 = .ok (.iaload, 1) := by decide +kernel
theorem d_LW_law_300 : decode M_LW_law.2.1 300 = .ok (.aload_n 3, 1) := by decide +kernel
theorem d_LW_law_301 : decode M_LW_law.2.1 301 = .ok (.invokestatic 82, 3) := by decide +kernel
theorem d_LW_law_304 : decode M_LW_law.2.1 304 = .ok (.istore 5, 2) := by decide +kernel
theorem d_LW_law_306 : decode M_LW_law.2.1 306 = .ok (.aload_n 2, 1) := by decide +kernel
theorem d_LW_law_307 : decode M_LW_law.2.1 307 = .ok (.aload_n 0, 1) := by decide +kernel
theorem d_LW_law_308 : decode M_LW_law.2.1 308 = .ok (.iload 4, 2) := by decide +kernel
theorem d_LW_law_310 : decode M_LW_law.2.1 310 = .ok (.iconst 1, 1) := by decide +kernel
theorem d_LW_law_311 : decode M_LW_law.2.1 311 = .ok (.iadd, 1) := by decide +kernel
theorem d_LW_law_312 : decode M_LW_law.2.1 312 = .ok (.iaload, 1) := by decide +kernel
theorem d_LW_law_313 : decode M_LW_law.2.1 313 = .ok (.invokevirtual 84, 3) := by decide +kernel
theorem d_LW_law_316 : decode M_LW_law.2.1 316 = .ok (.istore 6, 2) := by decide +kernel
theorem d_LW_law_318 : decode M_LW_law.2.1 318 = .ok (.aload_n 2, 1) := by decide +kernel
theorem d_LW_law_319 : decode M_LW_law.2.1 319 = .ok (.invokevirtual 70, 3) := by decide +kernel
theorem d_LW_law_322 : decode M_LW_law.2.1 322 = .ok (.iload 5, 2) := by decide +kernel
theorem d_LW_law_324 : decode M_LW_law.2.1 324 = .ok (.if_icmp .eq 5, 3) := by decide +kernel
theorem d_LW_law_327 : decode M_LW_law.2.1 327 = .ok (.iconst 0, 1) := by decide +kernel
theorem d_LW_law_328 : decode M_LW_law.2.1 328 = .ok (.ireturn, 1) := by decide +kernel
theorem d_LW_law_329 : decode M_LW_law.2.1 329 = .ok (.iload 5, 2) := by decide +kernel
theorem d_LW_law_331 : decode M_LW_law.2.1 331 = .ok (.ifCond .ne 15, 3) := by decide +kernel
theorem d_LW_law_334 : decode M_LW_law.2.1 334 = .ok (.aload_n 3, 1) := by decide +kernel
theorem d_LW_law_335 : decode M_LW_law.2.1 335 = .ok (.iconst 0, 1) := by decide +kernel
theorem d_LW_law_336 : decode M_LW_law.2.1 336 = .ok (.laload, 1) := by decide +kernel
theorem d_LW_law_337 : decode M_LW_law.2.1 337 = .ok (.iload 6, 2) := by decide +kernel
theorem d_LW_law_339 : decode M_LW_law.2.1 339 = .ok (.i2l, 1) := by decide +kernel
theorem d_LW_law_340 : decode M_LW_law.2.1 340 = .ok (.lcmp, 1) := by decide +kernel
theorem d_LW_law_341 : decode M_LW_law.2.1 341 = .ok (.ifCond .eq 5, 3) := by decide +kernel
theorem d_LW_law_344 : decode M_LW_law.2.1 344 = .ok (.iconst 0, 1) := by decide +kernel
theorem d_LW_law_345 : decode M_LW_law.2.1 345 = .ok (.ireturn, 1) := by decide +kernel
theorem d_LW_law_346 : decode M_LW_law.2.1 346 = .ok (.goto 735, 3) := by decide +kernel
theorem d_LW_law_349 : decode M_LW_law.2.1 349 = .ok (.aload_n 1, 1) := by decide +kernel
theorem d_LW_law_350 : decode M_LW_law.2.1 350 = .ok (.invokevirtual 85, 3) := by decide +kernel
theorem d_LW_law_353 : decode M_LW_law.2.1 353 = .ok (.aload_n 2, 1) := by decide +kernel
theorem d_LW_law_354 : decode M_LW_law.2.1 354 = .ok (.invokevirtual 88, 3) := by decide +kernel
theorem d_LW_law_357 : decode M_LW_law.2.1 357 = .ok (.if_icmp .eq 724, 3) := by decide +kernel
theorem d_LW_law_360 : decode M_LW_law.2.1 360 = .ok (.iconst 0, 1) := by decide +kernel
theorem d_LW_law_361 : decode M_LW_law.2.1 361 = .ok (.ireturn, 1) := by decide +kernel
theorem d_LW_law_362 : decode M_LW_law.2.1 362 = .ok (.aload_n 1, 1) := by decide +kernel
theorem d_LW_law_363 : decode M_LW_law.2.1 363 = .ok (.aload_n 0, 1) := by decide +kernel
theorem d_LW_law_364 : decode M_LW_law.2.1 364 = .ok (.iload 4, 2) := by decide +kernel
theorem d_LW_law_366 : decode M_LW_law.2.1 366 = .ok (.iconst 1, 1) := by decide +kernel
theorem d_LW_law_367 : decode M_LW_law.2.1 367 = .ok (.iadd, 1) := by decide +kernel
theorem d_LW_law_368 : decode M_LW_law.2.1 368 = .ok (.iaload, 1) := by decide +kernel
theorem d_LW_law_369 : decode M_LW_law.2.1 369 = .ok (.aload_n 3, 1) := by decide +kernel
theorem d_LW_law_370 : decode M_LW_law.2.1 370 = .ok (.invokestatic 89, 3) := by decide +kernel
theorem d_LW_law_373 : decode M_LW_law.2.1 373 = .ok (.istore 5, 2) := by decide +kernel
theorem d_LW_law_375 : decode M_LW_law.2.1 375 = .ok (.aload_n 2, 1) := by decide +kernel
theorem d_LW_law_376 : decode M_LW_law.2.1 376 = .ok (.aload_n 0, 1) := by decide +kernel
theorem d_LW_law_377 : decode M_LW_law.2.1 377 = .ok (.iload 4, 2) := by decide +kernel
theorem d_LW_law_379 : decode M_LW_law.2.1 379 = .ok (.iconst 1, 1) := by decide +kernel
theorem d_LW_law_380 : decode M_LW_law.2.1 380 = .ok (.iadd, 1) := by decide +kernel
theorem d_LW_law_381 : decode M_LW_law.2.1 381 = .ok (.iaload, 1) := by decide +kernel
theorem d_LW_law_382 : decode M_LW_law.2.1 382 = .ok (.invokevirtual 91, 3) := by decide +kernel
theorem d_LW_law_385 : decode M_LW_law.2.1 385 = .ok (.istore 6, 2) := by decide +kernel
theorem d_LW_law_387 : decode M_LW_law.2.1 387 = .ok (.aload_n 2, 1) := by decide +kernel
theorem d_LW_law_388 : decode M_LW_law.2.1 388 = .ok (.invokevirtual 70, 3) := by decide +kernel
theorem d_LW_law_391 : decode M_LW_law.2.1 391 = .ok (.iload 5, 2) := by decide +kernel
theorem d_LW_law_393 : decode M_LW_law.2.1 393 = .ok (.if_icmp .eq 5, 3) := by decide +kernel
theorem d_LW_law_396 : decode M_LW_law.2.1 396 = .ok (.iconst 0, 1) := by decide +kernel
theorem d_LW_law_397 : decode M_LW_law.2.1 397 = .ok (.ireturn, 1) := by decide +kernel
theorem d_LW_law_398 : decode M_LW_law.2.1 398 = .ok (.iload 5, 2) := by decide +kernel
theorem d_LW_law_400 : decode M_LW_law.2.1 400 = .ok (.ifCond .ne 15, 3) := by decide +kernel
theorem d_LW_law_403 : decode M_LW_law.2.1 403 = .ok (.aload_n 3, 1) := by decide +kernel
theorem d_LW_law_404 : decode M_LW_law.2.1 404 = .ok (.iconst 0, 1) := by decide +kernel
theorem d_LW_law_405 : decode M_LW_law.2.1 405 = .ok (.laload, 1) := by decide +kernel
theorem d_LW_law_406 : decode M_LW_law.2.1 406 = .ok (.iload 6, 2) := by decide +kernel
theorem d_LW_law_408 : decode M_LW_law.2.1 408 = .ok (.i2l, 1) := by decide +kernel
theorem d_LW_law_409 : decode M_LW_law.2.1 409 = .ok (.lcmp, 1) := by decide +kernel
theorem d_LW_law_410 : decode M_LW_law.2.1 410 = .ok (.ifCond .eq 5, 3) := by decide +kernel
theorem d_LW_law_413 : decode M_LW_law.2.1 413 = .ok (.iconst 0, 1) := by decide +kernel
theorem d_LW_law_414 : decode M_LW_law.2.1 414 = .ok (.ireturn, 1) := by decide +kernel
theorem d_LW_law_415 : decode M_LW_law.2.1 415 = .ok (.goto 666, 3) := by decide +kernel
theorem d_LW_law_418 : decode M_LW_law.2.1 418 = .ok (.aload_n 1, 1) := by decide +kernel
theorem d_LW_law_419 : decode M_LW_law.2.1 419 = .ok (.aload_n 0, 1) := by decide +kernel
theorem d_LW_law_420 : decode M_LW_law.2.1 420 = .ok (.iload 4, 2) := by decide +kernel
theorem d_LW_law_422 : decode M_LW_law.2.1 422 = .ok (.iconst 1, 1) := by decide +kernel
theorem d_LW_law_423 : decode M_LW_law.2.1 423 = .ok (.iadd, 1) := by decide +kernel
theorem d_LW_law_424 : decode M_LW_law.2.1 424 = .ok (.iaload, 1) := by decide +kernel
theorem d_LW_law_425 : decode M_LW_law.2.1 425 = .ok (.aload_n 0, 1) := by decide +kernel
theorem d_LW_law_426 : decode M_LW_law.2.1 426 = .ok (.iload 4, 2) := by decide +kernel
theorem d_LW_law_428 : decode M_LW_law.2.1 428 = .ok (.iconst 2, 1) := by decide +kernel
theorem d_LW_law_429 : decode M_LW_law.2.1 429 = .ok (.iadd, 1) := by decide +kernel
theorem d_LW_law_430 : decode M_LW_law.2.1 430 = .ok (.iaload, 1) := by decide +kernel
theorem d_LW_law_431 : decode M_LW_law.2.1 431 = .ok (.aload_n 3, 1) := by decide +kernel
theorem d_LW_law_432 : decode M_LW_law.2.1 432 = .ok (.invokestatic 92, 3) := by decide +kernel
theorem d_LW_law_435 : decode M_LW_law.2.1 435 = .ok (.istore 5, 2) := by decide +kernel
theorem d_LW_law_437 : decode M_LW_law.2.1 437 = .ok (.aload_n 2, 1) := by decide +kernel
theorem d_LW_law_438 : decode M_LW_law.2.1 438 = .ok (.aload_n 0, 1) := by decide +kernel
theorem d_LW_law_439 : decode M_LW_law.2.1 439 = .ok (.iload 4, 2) := by decide +kernel
theorem d_LW_law_441 : decode M_LW_law.2.1 441 = .ok (.iconst 1, 1) := by decide +kernel
theorem d_LW_law_442 : decode M_LW_law.2.1 442 = .ok (.iadd, 1) := by decide +kernel
theorem d_LW_law_443 : decode M_LW_law.2.1 443 = .ok (.iaload, 1) := by decide +kernel
theorem d_LW_law_444 : decode M_LW_law.2.1 444 = .ok (.aload_n 0, 1) := by decide +kernel
theorem d_LW_law_445 : decode M_LW_law.2.1 445 = .ok (.iload 4, 2) := by decide +kernel
theorem d_LW_law_447 : decode M_LW_law.2.1 447 = .ok (.iconst 2, 1) := by decide +kernel
theorem d_LW_law_448 : decode M_LW_law.2.1 448 = .ok (.iadd, 1) := by decide +kernel
theorem d_LW_law_449 : decode M_LW_law.2.1 449 = .ok (.iaload, 1) := by decide +kernel
theorem d_LW_law_450 : decode M_LW_law.2.1 450 = .ok (.invokevirtual 95, 3) := by decide +kernel
theorem d_LW_law_453 : decode M_LW_law.2.1 453 = .ok (.istore 6, 2) := by decide +kernel
theorem d_LW_law_455 : decode M_LW_law.2.1 455 = .ok (.aload_n 2, 1) := by decide +kernel
theorem d_LW_law_456 : decode M_LW_law.2.1 456 = .ok (.invokevirtual 70, 3) := by decide +kernel
theorem d_LW_law_459 : decode M_LW_law.2.1 459 = .ok (.iload 5, 2) := by decide +kernel
theorem d_LW_law_461 : decode M_LW_law.2.1 461 = .ok (.if_icmp .eq 5, 3) := by decide +kernel
theorem d_LW_law_464 : decode M_LW_law.2.1 464 = .ok (.iconst 0, 1) := by decide +kernel
theorem d_LW_law_465 : decode M_LW_law.2.1 465 = .ok (.ireturn, 1) := by decide +kernel
theorem d_LW_law_466 : decode M_LW_law.2.1 466 = .ok (.iload 5, 2) := by decide +kernel
theorem d_LW_law_468 : decode M_LW_law.2.1 468 = .ok (.ifCond .ne 15, 3) := by decide +kernel
theorem d_LW_law_471 : decode M_LW_law.2.1 471 = .ok (.aload_n 3, 1) := by decide +kernel
theorem d_LW_law_472 : decode M_LW_law.2.1 472 = .ok (.iconst 0, 1) := by decide +kernel
theorem d_LW_law_473 : decode M_LW_law.2.1 473 = .ok (.laload, 1) := by decide +kernel
theorem d_LW_law_474 : decode M_LW_law.2.1 474 = .ok (.iload 6, 2) := by decide +kernel
theorem d_LW_law_476 : decode M_LW_law.2.1 476 = .ok (.i2l, 1) := by decide +kernel
theorem d_LW_law_477 : decode M_LW_law.2.1 477 = .ok (.lcmp, 1) := by decide +kernel
theorem d_LW_law_478 : decode M_LW_law.2.1 478 = .ok (.ifCond .eq 5, 3) := by decide +kernel
theorem d_LW_law_481 : decode M_LW_law.2.1 481 = .ok (.iconst 0, 1) := by decide +kernel
theorem d_LW_law_482 : decode M_LW_law.2.1 482 = .ok (.ireturn, 1) := by decide +kernel
theorem d_LW_law_483 : decode M_LW_law.2.1 483 = .ok (.goto 598, 3) := by decide +kernel
theorem d_LW_law_486 : decode M_LW_law.2.1 486 = .ok (.aload_n 1, 1) := by decide +kernel
theorem d_LW_law_487 : decode M_LW_law.2.1 487 = .ok (.aload_n 0, 1) := by decide +kernel
theorem d_LW_law_488 : decode M_LW_law.2.1 488 = .ok (.iload 4, 2) := by decide +kernel
theorem d_LW_law_490 : decode M_LW_law.2.1 490 = .ok (.iconst 1, 1) := by decide +kernel
theorem d_LW_law_491 : decode M_LW_law.2.1 491 = .ok (.iadd, 1) := by decide +kernel
theorem d_LW_law_492 : decode M_LW_law.2.1 492 = .ok (.iaload, 1) := by decide +kernel
theorem d_LW_law_493 : decode M_LW_law.2.1 493 = .ok (.aload_n 0, 1) := by decide +kernel
theorem d_LW_law_494 : decode M_LW_law.2.1 494 = .ok (.iload 4, 2) := by decide +kernel
theorem d_LW_law_496 : decode M_LW_law.2.1 496 = .ok (.iconst 2, 1) := by decide +kernel
theorem d_LW_law_497 : decode M_LW_law.2.1 497 = .ok (.iadd, 1) := by decide +kernel
theorem d_LW_law_498 : decode M_LW_law.2.1 498 = .ok (.iaload, 1) := by decide +kernel
theorem d_LW_law_499 : decode M_LW_law.2.1 499 = .ok (.aload_n 0, 1) := by decide +kernel
theorem d_LW_law_500 : decode M_LW_law.2.1 500 = .ok (.iload 4, 2) := by decide +kernel
theorem d_LW_law_502 : decode M_LW_law.2.1 502 = .ok (.iconst 3, 1) := by decide +kernel
theorem d_LW_law_503 : decode M_LW_law.2.1 503 = .ok (.iadd, 1) := by decide +kernel
theorem d_LW_law_504 : decode M_LW_law.2.1 504 = .ok (.iaload, 1) := by decide +kernel
theorem d_LW_law_505 : decode M_LW_law.2.1 505 = .ok (.aload_n 3, 1) := by decide +kernel
theorem d_LW_law_506 : decode M_LW_law.2.1 506 = .ok (.invokestatic 96, 3) := by decide +kernel
theorem d_LW_law_509 : decode M_LW_law.2.1 509 = .ok (.istore 5, 2) := by decide +kernel
theorem d_LW_law_511 : decode M_LW_law.2.1 511 = .ok (.aload_n 2, 1) := by decide +kernel
theorem d_LW_law_512 : decode M_LW_law.2.1 512 = .ok (.aload_n 0, 1) := by decide +kernel
theorem d_LW_law_513 : decode M_LW_law.2.1 513 = .ok (.iload 4, 2) := by decide +kernel
theorem d_LW_law_515 : decode M_LW_law.2.1 515 = .ok (.iconst 1, 1) := by decide +kernel
theorem d_LW_law_516 : decode M_LW_law.2.1 516 = .ok (.iadd, 1) := by decide +kernel
theorem d_LW_law_517 : decode M_LW_law.2.1 517 = .ok (.iaload, 1) := by decide +kernel
theorem d_LW_law_518 : decode M_LW_law.2.1 518 = .ok (.aload_n 0, 1) := by decide +kernel
theorem d_LW_law_519 : decode M_LW_law.2.1 519 = .ok (.iload 4, 2) := by decide +kernel
theorem d_LW_law_521 : decode M_LW_law.2.1 521 = .ok (.iconst 2, 1) := by decide +kernel
theorem d_LW_law_522 : decode M_LW_law.2.1 522 = .ok (.iadd, 1) := by decide +kernel
theorem d_LW_law_523 : decode M_LW_law.2.1 523 = .ok (.iaload, 1) := by decide +kernel
theorem d_LW_law_524 : decode M_LW_law.2.1 524 = .ok (.aload_n 0, 1) := by decide +kernel
theorem d_LW_law_525 : decode M_LW_law.2.1 525 = .ok (.iload 4, 2) := by decide +kernel
theorem d_LW_law_527 : decode M_LW_law.2.1 527 = .ok (.iconst 3, 1) := by decide +kernel
theorem d_LW_law_528 : decode M_LW_law.2.1 528 = .ok (.iadd, 1) := by decide +kernel
theorem d_LW_law_529 : decode M_LW_law.2.1 529 = .ok (.iaload, 1) := by decide +kernel
theorem d_LW_law_530 : decode M_LW_law.2.1 530 = .ok (.invokevirtual 99, 3) := by decide +kernel
theorem d_LW_law_533 : decode M_LW_law.2.1 533 = .ok (.istore 6, 2) := by decide +kernel
theorem d_LW_law_535 : decode M_LW_law.2.1 535 = .ok (.aload_n 2, 1) := by decide +kernel
theorem d_LW_law_536 : decode M_LW_law.2.1 536 = .ok (.invokevirtual 70, 3) := by decide +kernel
theorem d_LW_law_539 : decode M_LW_law.2.1 539 = .ok (.iload 5, 2) := by decide +kernel
theorem d_LW_law_541 : decode M_LW_law.2.1 541 = .ok (.if_icmp .eq 5, 3) := by decide +kernel
theorem d_LW_law_544 : decode M_LW_law.2.1 544 = .ok (.iconst 0, 1) := by decide +kernel
theorem d_LW_law_545 : decode M_LW_law.2.1 545 = .ok (.ireturn, 1) := by decide +kernel
theorem d_LW_law_546 : decode M_LW_law.2.1 546 = .ok (.iload 5, 2) := by decide +kernel
theorem d_LW_law_548 : decode M_LW_law.2.1 548 = .ok (.ifCond .ne 15, 3) := by decide +kernel
theorem d_LW_law_551 : decode M_LW_law.2.1 551 = .ok (.aload_n 3, 1) := by decide +kernel
theorem d_LW_law_552 : decode M_LW_law.2.1 552 = .ok (.iconst 0, 1) := by decide +kernel
theorem d_LW_law_553 : decode M_LW_law.2.1 553 = .ok (.laload, 1) := by decide +kernel
theorem d_LW_law_554 : decode M_LW_law.2.1 554 = .ok (.iload 6, 2) := by decide +kernel
theorem d_LW_law_556 : decode M_LW_law.2.1 556 = .ok (.i2l, 1) := by decide +kernel
theorem d_LW_law_557 : decode M_LW_law.2.1 557 = .ok (.lcmp, 1) := by decide +kernel
theorem d_LW_law_558 : decode M_LW_law.2.1 558 = .ok (.ifCond .eq 5, 3) := by decide +kernel
theorem d_LW_law_561 : decode M_LW_law.2.1 561 = .ok (.iconst 0, 1) := by decide +kernel
theorem d_LW_law_562 : decode M_LW_law.2.1 562 = .ok (.ireturn, 1) := by decide +kernel
theorem d_LW_law_563 : decode M_LW_law.2.1 563 = .ok (.goto 518, 3) := by decide +kernel
theorem d_LW_law_566 : decode M_LW_law.2.1 566 = .ok (.aload_n 1, 1) := by decide +kernel
theorem d_LW_law_567 : decode M_LW_law.2.1 567 = .ok (.aload_n 0, 1) := by decide +kernel
theorem d_LW_law_568 : decode M_LW_law.2.1 568 = .ok (.iload 4, 2) := by decide +kernel
theorem d_LW_law_570 : decode M_LW_law.2.1 570 = .ok (.iconst 1, 1) := by decide +kernel
theorem d_LW_law_571 : decode M_LW_law.2.1 571 = .ok (.iadd, 1) := by decide +kernel
theorem d_LW_law_572 : decode M_LW_law.2.1 572 = .ok (.iaload, 1) := by decide +kernel
theorem d_LW_law_573 : decode M_LW_law.2.1 573 = .ok (.aload_n 0, 1) := by decide +kernel
theorem d_LW_law_574 : decode M_LW_law.2.1 574 = .ok (.iload 4, 2) := by decide +kernel
theorem d_LW_law_576 : decode M_LW_law.2.1 576 = .ok (.iconst 2, 1) := by decide +kernel
theorem d_LW_law_577 : decode M_LW_law.2.1 577 = .ok (.iadd, 1) := by decide +kernel
theorem d_LW_law_578 : decode M_LW_law.2.1 578 = .ok (.iaload, 1) := by decide +kernel
theorem d_LW_law_579 : decode M_LW_law.2.1 579 = .ok (.aload_n 0, 1) := by decide +kernel
theorem d_LW_law_580 : decode M_LW_law.2.1 580 = .ok (.iload 4, 2) := by decide +kernel
theorem d_LW_law_582 : decode M_LW_law.2.1 582 = .ok (.iconst 3, 1) := by decide +kernel
theorem d_LW_law_583 : decode M_LW_law.2.1 583 = .ok (.iadd, 1) := by decide +kernel
theorem d_LW_law_584 : decode M_LW_law.2.1 584 = .ok (.iaload, 1) := by decide +kernel
theorem d_LW_law_585 : decode M_LW_law.2.1 585 = .ok (.aload_n 3, 1) := by decide +kernel
theorem d_LW_law_586 : decode M_LW_law.2.1 586 = .ok (.invokestatic 100, 3) := by decide +kernel
theorem d_LW_law_589 : decode M_LW_law.2.1 589 = .ok (.istore 5, 2) := by decide +kernel
theorem d_LW_law_591 : decode M_LW_law.2.1 591 = .ok (.aload_n 2, 1) := by decide +kernel
theorem d_LW_law_592 : decode M_LW_law.2.1 592 = .ok (.aload_n 0, 1) := by decide +kernel
theorem d_LW_law_593 : decode M_LW_law.2.1 593 = .ok (.iload 4, 2) := by decide +kernel
theorem d_LW_law_595 : decode M_LW_law.2.1 595 = .ok (.iconst 1, 1) := by decide +kernel
theorem d_LW_law_596 : decode M_LW_law.2.1 596 = .ok (.iadd, 1) := by decide +kernel
theorem d_LW_law_597 : decode M_LW_law.2.1 597 = .ok (.iaload, 1) := by decide +kernel
theorem d_LW_law_598 : decode M_LW_law.2.1 598 = .ok (.aload_n 0, 1) := by decide +kernel
theorem d_LW_law_599 : decode M_LW_law.2.1 599 = .ok (.iload 4, 2) := by decide +kernel
theorem d_LW_law_601 : decode M_LW_law.2.1 601 = .ok (.iconst 2, 1) := by decide +kernel
theorem d_LW_law_602 : decode M_LW_law.2.1 602 = .ok (.iadd, 1) := by decide +kernel
theorem d_LW_law_603 : decode M_LW_law.2.1 603 = .ok (.iaload, 1) := by decide +kernel
theorem d_LW_law_604 : decode M_LW_law.2.1 604 = .ok (.aload_n 0, 1) := by decide +kernel
theorem d_LW_law_605 : decode M_LW_law.2.1 605 = .ok (.iload 4, 2) := by decide +kernel
theorem d_LW_law_607 : decode M_LW_law.2.1 607 = .ok (.iconst 3, 1) := by decide +kernel
theorem d_LW_law_608 : decode M_LW_law.2.1 608 = .ok (.iadd, 1) := by decide +kernel
theorem d_LW_law_609 : decode M_LW_law.2.1 609 = .ok (.iaload, 1) := by decide +kernel
theorem d_LW_law_610 : decode M_LW_law.2.1 610 = .ok (.invokevirtual 102, 3) := by decide +kernel
theorem d_LW_law_613 : decode M_LW_law.2.1 613 = .ok (.istore 6, 2) := by decide +kernel
theorem d_LW_law_615 : decode M_LW_law.2.1 615 = .ok (.aload_n 2, 1) := by decide +kernel
theorem d_LW_law_616 : decode M_LW_law.2.1 616 = .ok (.invokevirtual 70, 3) := by decide +kernel
theorem d_LW_law_619 : decode M_LW_law.2.1 619 = .ok (.iload 5, 2) := by decide +kernel
theorem d_LW_law_621 : decode M_LW_law.2.1 621 = .ok (.if_icmp .eq 5, 3) := by decide +kernel
theorem d_LW_law_624 : decode M_LW_law.2.1 624 = .ok (.iconst 0, 1) := by decide +kernel
theorem d_LW_law_625 : decode M_LW_law.2.1 625 = .ok (.ireturn, 1) := by decide +kernel
theorem d_LW_law_626 : decode M_LW_law.2.1 626 = .ok (.iload 5, 2) := by decide +kernel
theorem d_LW_law_628 : decode M_LW_law.2.1 628 = .ok (.ifCond .ne 15, 3) := by decide +kernel
theorem d_LW_law_631 : decode M_LW_law.2.1 631 = .ok (.aload_n 3, 1) := by decide +kernel
theorem d_LW_law_632 : decode M_LW_law.2.1 632 = .ok (.iconst 0, 1) := by decide +kernel
theorem d_LW_law_633 : decode M_LW_law.2.1 633 = .ok (.laload, 1) := by decide +kernel
theorem d_LW_law_634 : decode M_LW_law.2.1 634 = .ok (.iload 6, 2) := by decide +kernel
theorem d_LW_law_636 : decode M_LW_law.2.1 636 = .ok (.i2l, 1) := by decide +kernel
theorem d_LW_law_637 : decode M_LW_law.2.1 637 = .ok (.lcmp, 1) := by decide +kernel
theorem d_LW_law_638 : decode M_LW_law.2.1 638 = .ok (.ifCond .eq 5, 3) := by decide +kernel
theorem d_LW_law_641 : decode M_LW_law.2.1 641 = .ok (.iconst 0, 1) := by decide +kernel
theorem d_LW_law_642 : decode M_LW_law.2.1 642 = .ok (.ireturn, 1) := by decide +kernel
theorem d_LW_law_643 : decode M_LW_law.2.1 643 = .ok (.goto 438, 3) := by decide +kernel
theorem d_LW_law_646 : decode M_LW_law.2.1 646 = .ok (.aload_n 1, 1) := by decide +kernel
theorem d_LW_law_647 : decode M_LW_law.2.1 647 = .ok (.aload_n 0, 1) := by decide +kernel
theorem d_LW_law_648 : decode M_LW_law.2.1 648 = .ok (.iload 4, 2) := by decide +kernel
theorem d_LW_law_650 : decode M_LW_law.2.1 650 = .ok (.iconst 1, 1) := by decide +kernel
theorem d_LW_law_651 : decode M_LW_law.2.1 651 = .ok (.iadd, 1) := by decide +kernel
theorem d_LW_law_652 : decode M_LW_law.2.1 652 = .ok (.iaload, 1) := by decide +kernel
theorem d_LW_law_653 : decode M_LW_law.2.1 653 = .ok (.aload_n 0, 1) := by decide +kernel
theorem d_LW_law_654 : decode M_LW_law.2.1 654 = .ok (.iload 4, 2) := by decide +kernel
theorem d_LW_law_656 : decode M_LW_law.2.1 656 = .ok (.iconst 2, 1) := by decide +kernel
theorem d_LW_law_657 : decode M_LW_law.2.1 657 = .ok (.iadd, 1) := by decide +kernel
theorem d_LW_law_658 : decode M_LW_law.2.1 658 = .ok (.iaload, 1) := by decide +kernel
theorem d_LW_law_659 : decode M_LW_law.2.1 659 = .ok (.aload_n 3, 1) := by decide +kernel
theorem d_LW_law_660 : decode M_LW_law.2.1 660 = .ok (.invokestatic 103, 3) := by decide +kernel
theorem d_LW_law_663 : decode M_LW_law.2.1 663 = .ok (.istore 5, 2) := by decide +kernel
theorem d_LW_law_665 : decode M_LW_law.2.1 665 = .ok (.aload_n 2, 1) := by decide +kernel
theorem d_LW_law_666 : decode M_LW_law.2.1 666 = .ok (.aload_n 0, 1) := by decide +kernel
theorem d_LW_law_667 : decode M_LW_law.2.1 667 = .ok (.iload 4, 2) := by decide +kernel
theorem d_LW_law_669 : decode M_LW_law.2.1 669 = .ok (.iconst 1, 1) := by decide +kernel
theorem d_LW_law_670 : decode M_LW_law.2.1 670 = .ok (.iadd, 1) := by decide +kernel
theorem d_LW_law_671 : decode M_LW_law.2.1 671 = .ok (.iaload, 1) := by decide +kernel
theorem d_LW_law_672 : decode M_LW_law.2.1 672 = .ok (.aload_n 0, 1) := by decide +kernel
theorem d_LW_law_673 : decode M_LW_law.2.1 673 = .ok (.iload 4, 2) := by decide +kernel
theorem d_LW_law_675 : decode M_LW_law.2.1 675 = .ok (.iconst 2, 1) := by decide +kernel
theorem d_LW_law_676 : decode M_LW_law.2.1 676 = .ok (.iadd, 1) := by decide +kernel
theorem d_LW_law_677 : decode M_LW_law.2.1 677 = .ok (.iaload, 1) := by decide +kernel
theorem d_LW_law_678 : decode M_LW_law.2.1 678 = .ok (.invokevirtual 105, 3) := by decide +kernel
theorem d_LW_law_681 : decode M_LW_law.2.1 681 = .ok (.istore 6, 2) := by decide +kernel
theorem d_LW_law_683 : decode M_LW_law.2.1 683 = .ok (.aload_n 2, 1) := by decide +kernel
theorem d_LW_law_684 : decode M_LW_law.2.1 684 = .ok (.invokevirtual 70, 3) := by decide +kernel
theorem d_LW_law_687 : decode M_LW_law.2.1 687 = .ok (.iload 5, 2) := by decide +kernel
theorem d_LW_law_689 : decode M_LW_law.2.1 689 = .ok (.if_icmp .eq 5, 3) := by decide +kernel
theorem d_LW_law_692 : decode M_LW_law.2.1 692 = .ok (.iconst 0, 1) := by decide +kernel
theorem d_LW_law_693 : decode M_LW_law.2.1 693 = .ok (.ireturn, 1) := by decide +kernel
theorem d_LW_law_694 : decode M_LW_law.2.1 694 = .ok (.iload 5, 2) := by decide +kernel
theorem d_LW_law_696 : decode M_LW_law.2.1 696 = .ok (.ifCond .ne 15, 3) := by decide +kernel
theorem d_LW_law_699 : decode M_LW_law.2.1 699 = .ok (.aload_n 3, 1) := by decide +kernel
theorem d_LW_law_700 : decode M_LW_law.2.1 700 = .ok (.iconst 0, 1) := by decide +kernel
theorem d_LW_law_701 : decode M_LW_law.2.1 701 = .ok (.laload, 1) := by decide +kernel
theorem d_LW_law_702 : decode M_LW_law.2.1 702 = .ok (.iload 6, 2) := by decide +kernel
theorem d_LW_law_704 : decode M_LW_law.2.1 704 = .ok (.i2l, 1) := by decide +kernel
theorem d_LW_law_705 : decode M_LW_law.2.1 705 = .ok (.lcmp, 1) := by decide +kernel
theorem d_LW_law_706 : decode M_LW_law.2.1 706 = .ok (.ifCond .eq 5, 3) := by decide +kernel
theorem d_LW_law_709 : decode M_LW_law.2.1 709 = .ok (.iconst 0, 1) := by decide +kernel
theorem d_LW_law_710 : decode M_LW_law.2.1 710 = .ok (.ireturn, 1) := by decide +kernel
theorem d_LW_law_711 : decode M_LW_law.2.1 711 = .ok (.goto 370, 3) := by decide +kernel
theorem d_LW_law_714 : decode M_LW_law.2.1 714 = .ok (.aload_n 1, 1) := by decide +kernel
theorem d_LW_law_715 : decode M_LW_law.2.1 715 = .ok (.aload_n 0, 1) := by decide +kernel
theorem d_LW_law_716 : decode M_LW_law.2.1 716 = .ok (.iload 4, 2) := by decide +kernel
theorem d_LW_law_718 : decode M_LW_law.2.1 718 = .ok (.iconst 1, 1) := by decide +kernel
theorem d_LW_law_719 : decode M_LW_law.2.1 719 = .ok (.iadd, 1) := by decide +kernel
theorem d_LW_law_720 : decode M_LW_law.2.1 720 = .ok (.iaload, 1) := by decide +kernel
theorem d_LW_law_721 : decode M_LW_law.2.1 721 = .ok (.aload_n 0, 1) := by decide +kernel
theorem d_LW_law_722 : decode M_LW_law.2.1 722 = .ok (.iload 4, 2) := by decide +kernel
theorem d_LW_law_724 : decode M_LW_law.2.1 724 = .ok (.iconst 2, 1) := by decide +kernel
theorem d_LW_law_725 : decode M_LW_law.2.1 725 = .ok (.iadd, 1) := by decide +kernel
theorem d_LW_law_726 : decode M_LW_law.2.1 726 = .ok (.iaload, 1) := by decide +kernel
theorem d_LW_law_727 : decode M_LW_law.2.1 727 = .ok (.aload_n 3, 1) := by decide +kernel
theorem d_LW_law_728 : decode M_LW_law.2.1 728 = .ok (.invokestatic 106, 3) := by decide +kernel
theorem d_LW_law_731 : decode M_LW_law.2.1 731 = .ok (.istore 5, 2) := by decide +kernel
theorem d_LW_law_733 : decode M_LW_law.2.1 733 = .ok (.aload_n 2, 1) := by decide +kernel
theorem d_LW_law_734 : decode M_LW_law.2.1 734 = .ok (.aload_n 0, 1) := by decide +kernel
theorem d_LW_law_735 : decode M_LW_law.2.1 735 = .ok (.iload 4, 2) := by decide +kernel
theorem d_LW_law_737 : decode M_LW_law.2.1 737 = .ok (.iconst 1, 1) := by decide +kernel
theorem d_LW_law_738 : decode M_LW_law.2.1 738 = .ok (.iadd, 1) := by decide +kernel
theorem d_LW_law_739 : decode M_LW_law.2.1 739 = .ok (.iaload, 1) := by decide +kernel
theorem d_LW_law_740 : decode M_LW_law.2.1 740 = .ok (.aload_n 0, 1) := by decide +kernel
theorem d_LW_law_741 : decode M_LW_law.2.1 741 = .ok (.iload 4, 2) := by decide +kernel
theorem d_LW_law_743 : decode M_LW_law.2.1 743 = .ok (.iconst 2, 1) := by decide +kernel
theorem d_LW_law_744 : decode M_LW_law.2.1 744 = .ok (.iadd, 1) := by decide +kernel
theorem d_LW_law_745 : decode M_LW_law.2.1 745 = .ok (.iaload, 1) := by decide +kernel
theorem d_LW_law_746 : decode M_LW_law.2.1 746 = .ok (.invokevirtual 108, 3) := by decide +kernel
theorem d_LW_law_749 : decode M_LW_law.2.1 749 = .ok (.istore 6, 2) := by decide +kernel
theorem d_LW_law_751 : decode M_LW_law.2.1 751 = .ok (.aload_n 2, 1) := by decide +kernel
theorem d_LW_law_752 : decode M_LW_law.2.1 752 = .ok (.invokevirtual 70, 3) := by decide +kernel
theorem d_LW_law_755 : decode M_LW_law.2.1 755 = .ok (.iload 5, 2) := by decide +kernel
theorem d_LW_law_757 : decode M_LW_law.2.1 757 = .ok (.if_icmp .eq 5, 3) := by decide +kernel
theorem d_LW_law_760 : decode M_LW_law.2.1 760 = .ok (.iconst 0, 1) := by decide +kernel
theorem d_LW_law_761 : decode M_LW_law.2.1 761 = .ok (.ireturn, 1) := by decide +kernel
theorem d_LW_law_762 : decode M_LW_law.2.1 762 = .ok (.iload 5, 2) := by decide +kernel
theorem d_LW_law_764 : decode M_LW_law.2.1 764 = .ok (.ifCond .ne 15, 3) := by decide +kernel
theorem d_LW_law_767 : decode M_LW_law.2.1 767 = .ok (.aload_n 3, 1) := by decide +kernel
theorem d_LW_law_768 : decode M_LW_law.2.1 768 = .ok (.iconst 0, 1) := by decide +kernel
theorem d_LW_law_769 : decode M_LW_law.2.1 769 = .ok (.laload, 1) := by decide +kernel
theorem d_LW_law_770 : decode M_LW_law.2.1 770 = .ok (.iload 6, 2) := by decide +kernel
theorem d_LW_law_772 : decode M_LW_law.2.1 772 = .ok (.i2l, 1) := by decide +kernel
theorem d_LW_law_773 : decode M_LW_law.2.1 773 = .ok (.lcmp, 1) := by decide +kernel
theorem d_LW_law_774 : decode M_LW_law.2.1 774 = .ok (.ifCond .eq 5, 3) := by decide +kernel
theorem d_LW_law_777 : decode M_LW_law.2.1 777 = .ok (.iconst 0, 1) := by decide +kernel
theorem d_LW_law_778 : decode M_LW_law.2.1 778 = .ok (.ireturn, 1) := by decide +kernel
theorem d_LW_law_779 : decode M_LW_law.2.1 779 = .ok (.goto 302, 3) := by decide +kernel
theorem d_LW_law_782 : decode M_LW_law.2.1 782 = .ok (.aload_n 1, 1) := by decide +kernel
theorem d_LW_law_783 : decode M_LW_law.2.1 783 = .ok (.aload_n 0, 1) := by decide +kernel
theorem d_LW_law_784 : decode M_LW_law.2.1 784 = .ok (.iload 4, 2) := by decide +kernel
theorem d_LW_law_786 : decode M_LW_law.2.1 786 = .ok (.iconst 1, 1) := by decide +kernel
theorem d_LW_law_787 : decode M_LW_law.2.1 787 = .ok (.iadd, 1) := by decide +kernel
theorem d_LW_law_788 : decode M_LW_law.2.1 788 = .ok (.iaload, 1) := by decide +kernel
theorem d_LW_law_789 : decode M_LW_law.2.1 789 = .ok (.aload_n 0, 1) := by decide +kernel
theorem d_LW_law_790 : decode M_LW_law.2.1 790 = .ok (.iload 4, 2) := by decide +kernel
theorem d_LW_law_792 : decode M_LW_law.2.1 792 = .ok (.iconst 2, 1) := by decide +kernel
theorem d_LW_law_793 : decode M_LW_law.2.1 793 = .ok (.iadd, 1) := by decide +kernel
theorem d_LW_law_794 : decode M_LW_law.2.1 794 = .ok (.iaload, 1) := by decide +kernel
theorem d_LW_law_795 : decode M_LW_law.2.1 795 = .ok (.aload_n 3, 1) := by decide +kernel
theorem d_LW_law_796 : decode M_LW_law.2.1 796 = .ok (.invokestatic 109, 3) := by decide +kernel
theorem d_LW_law_799 : decode M_LW_law.2.1 799 = .ok (.istore 5, 2) := by decide +kernel
theorem d_LW_law_801 : decode M_LW_law.2.1 801 = .ok (.aload_n 2, 1) := by decide +kernel
theorem d_LW_law_802 : decode M_LW_law.2.1 802 = .ok (.aload_n 0, 1) := by decide +kernel
theorem d_LW_law_803 : decode M_LW_law.2.1 803 = .ok (.iload 4, 2) := by decide +kernel
theorem d_LW_law_805 : decode M_LW_law.2.1 805 = .ok (.iconst 1, 1) := by decide +kernel
theorem d_LW_law_806 : decode M_LW_law.2.1 806 = .ok (.iadd, 1) := by decide +kernel
theorem d_LW_law_807 : decode M_LW_law.2.1 807 = .ok (.iaload, 1) := by decide +kernel
theorem d_LW_law_808 : decode M_LW_law.2.1 808 = .ok (.aload_n 0, 1) := by decide +kernel
theorem d_LW_law_809 : decode M_LW_law.2.1 809 = .ok (.iload 4, 2) := by decide +kernel
theorem d_LW_law_811 : decode M_LW_law.2.1 811 = .ok (.iconst 2, 1) := by decide +kernel
theorem d_LW_law_812 : decode M_LW_law.2.1 812 = .ok (.iadd, 1) := by decide +kernel
theorem d_LW_law_813 : decode M_LW_law.2.1 813 = .ok (.iaload, 1) := by decide +kernel
theorem d_LW_law_814 : decode M_LW_law.2.1 814 = .ok (.invokevirtual 111, 3) := by decide +kernel
theorem d_LW_law_817 : decode M_LW_law.2.1 817 = .ok (.istore 6, 2) := by decide +kernel
theorem d_LW_law_819 : decode M_LW_law.2.1 819 = .ok (.aload_n 2, 1) := by decide +kernel
theorem d_LW_law_820 : decode M_LW_law.2.1 820 = .ok (.invokevirtual 70, 3) := by decide +kernel
theorem d_LW_law_823 : decode M_LW_law.2.1 823 = .ok (.iload 5, 2) := by decide +kernel
theorem d_LW_law_825 : decode M_LW_law.2.1 825 = .ok (.if_icmp .eq 5, 3) := by decide +kernel
theorem d_LW_law_828 : decode M_LW_law.2.1 828 = .ok (.iconst 0, 1) := by decide +kernel
theorem d_LW_law_829 : decode M_LW_law.2.1 829 = .ok (.ireturn, 1) := by decide +kernel
theorem d_LW_law_830 : decode M_LW_law.2.1 830 = .ok (.iload 5, 2) := by decide +kernel
theorem d_LW_law_832 : decode M_LW_law.2.1 832 = .ok (.ifCond .ne 15, 3) := by decide +kernel
theorem d_LW_law_835 : decode M_LW_law.2.1 835 = .ok (.aload_n 3, 1) := by decide +kernel
theorem d_LW_law_836 : decode M_LW_law.2.1 836 = .ok (.iconst 0, 1) := by decide +kernel
theorem d_LW_law_837 : decode M_LW_law.2.1 837 = .ok (.laload, 1) := by decide +kernel
theorem d_LW_law_838 : decode M_LW_law.2.1 838 = .ok (.iload 6, 2) := by decide +kernel
theorem d_LW_law_840 : decode M_LW_law.2.1 840 = .ok (.i2l, 1) := by decide +kernel
theorem d_LW_law_841 : decode M_LW_law.2.1 841 = .ok (.lcmp, 1) := by decide +kernel
theorem d_LW_law_842 : decode M_LW_law.2.1 842 = .ok (.ifCond .eq 5, 3) := by decide +kernel
theorem d_LW_law_845 : decode M_LW_law.2.1 845 = .ok (.iconst 0, 1) := by decide +kernel
theorem d_LW_law_846 : decode M_LW_law.2.1 846 = .ok (.ireturn, 1) := by decide +kernel
theorem d_LW_law_847 : decode M_LW_law.2.1 847 = .ok (.goto 234, 3) := by decide +kernel
theorem d_LW_law_850 : decode M_LW_law.2.1 850 = .ok (.aload_n 1, 1) := by decide +kernel
theorem d_LW_law_851 : decode M_LW_law.2.1 851 = .ok (.aload_n 0, 1) := by decide +kernel
theorem d_LW_law_852 : decode M_LW_law.2.1 852 = .ok (.iload 4, 2) := by decide +kernel
theorem d_LW_law_854 : decode M_LW_law.2.1 854 = .ok (.iconst 1, 1) := by decide +kernel
theorem d_LW_law_855 : decode M_LW_law.2.1 855 = .ok (.iadd, 1) := by decide +kernel
theorem d_LW_law_856 : decode M_LW_law.2.1 856 = .ok (.iaload, 1) := by decide +kernel
theorem d_LW_law_857 : decode M_LW_law.2.1 857 = .ok (.aload_n 3, 1) := by decide +kernel
theorem d_LW_law_858 : decode M_LW_law.2.1 858 = .ok (.invokestatic 112, 3) := by decide +kernel
theorem d_LW_law_861 : decode M_LW_law.2.1 861 = .ok (.istore 5, 2) := by decide +kernel
theorem d_LW_law_863 : decode M_LW_law.2.1 863 = .ok (.aload_n 2, 1) := by decide +kernel
theorem d_LW_law_864 : decode M_LW_law.2.1 864 = .ok (.aload_n 0, 1) := by decide +kernel
theorem d_LW_law_865 : decode M_LW_law.2.1 865 = .ok (.iload 4, 2) := by decide +kernel
theorem d_LW_law_867 : decode M_LW_law.2.1 867 = .ok (.iconst 1, 1) := by decide +kernel
theorem d_LW_law_868 : decode M_LW_law.2.1 868 = .ok (.iadd, 1) := by decide +kernel
theorem d_LW_law_869 : decode M_LW_law.2.1 869 = .ok (.iaload, 1) := by decide +kernel
theorem d_LW_law_870 : decode M_LW_law.2.1 870 = .ok (.invokevirtual 114, 3) := by decide +kernel
theorem d_LW_law_873 : decode M_LW_law.2.1 873 = .ok (.istore 6, 2) := by decide +kernel
theorem d_LW_law_875 : decode M_LW_law.2.1 875 = .ok (.aload_n 2, 1) := by decide +kernel
theorem d_LW_law_876 : decode M_LW_law.2.1 876 = .ok (.invokevirtual 70, 3) := by decide +kernel
theorem d_LW_law_879 : decode M_LW_law.2.1 879 = .ok (.iload 5, 2) := by decide +kernel
theorem d_LW_law_881 : decode M_LW_law.2.1 881 = .ok (.if_icmp .eq 5, 3) := by decide +kernel
theorem d_LW_law_884 : decode M_LW_law.2.1 884 = .ok (.iconst 0, 1) := by decide +kernel
theorem d_LW_law_885 : decode M_LW_law.2.1 885 = .ok (.ireturn, 1) := by decide +kernel
theorem d_LW_law_886 : decode M_LW_law.2.1 886 = .ok (.iload 5, 2) := by decide +kernel
theorem d_LW_law_888 : decode M_LW_law.2.1 888 = .ok (.ifCond .ne 15, 3) := by decide +kernel
theorem d_LW_law_891 : decode M_LW_law.2.1 891 = .ok (.aload_n 3, 1) := by decide +kernel
theorem d_LW_law_892 : decode M_LW_law.2.1 892 = .ok (.iconst 0, 1) := by decide +kernel
theorem d_LW_law_893 : decode M_LW_law.2.1 893 = .ok (.laload, 1) := by decide +kernel
theorem d_LW_law_894 : decode M_LW_law.2.1 894 = .ok (.iload 6, 2) := by decide +kernel
theorem d_LW_law_896 : decode M_LW_law.2.1 896 = .ok (.i2l, 1) := by decide +kernel
theorem d_LW_law_897 : decode M_LW_law.2.1 897 = .ok (.lcmp, 1) := by decide +kernel
theorem d_LW_law_898 : decode M_LW_law.2.1 898 = .ok (.ifCond .eq 5, 3) := by decide +kernel
theorem d_LW_law_901 : decode M_LW_law.2.1 901 = .ok (.iconst 0, 1) := by decide +kernel
theorem d_LW_law_902 : decode M_LW_law.2.1 902 = .ok (.ireturn, 1) := by decide +kernel
theorem d_LW_law_903 : decode M_LW_law.2.1 903 = .ok (.goto 178, 3) := by decide +kernel
theorem d_LW_law_906 : decode M_LW_law.2.1 906 = .ok (.aload_n 1, 1) := by decide +kernel
theorem d_LW_law_907 : decode M_LW_law.2.1 907 = .ok (.aload_n 0, 1) := by decide +kernel
theorem d_LW_law_908 : decode M_LW_law.2.1 908 = .ok (.iload 4, 2) := by decide +kernel
theorem d_LW_law_910 : decode M_LW_law.2.1 910 = .ok (.iconst 1, 1) := by decide +kernel
theorem d_LW_law_911 : decode M_LW_law.2.1 911 = .ok (.iadd, 1) := by decide +kernel
theorem d_LW_law_912 : decode M_LW_law.2.1 912 = .ok (.iaload, 1) := by decide +kernel
theorem d_LW_law_913 : decode M_LW_law.2.1 913 = .ok (.aload_n 3, 1) := by decide +kernel
theorem d_LW_law_914 : decode M_LW_law.2.1 914 = .ok (.invokestatic 115, 3) := by decide +kernel
theorem d_LW_law_917 : decode M_LW_law.2.1 917 = .ok (.istore 5, 2) := by decide +kernel
theorem d_LW_law_919 : decode M_LW_law.2.1 919 = .ok (.aload_n 2, 1) := by decide +kernel
theorem d_LW_law_920 : decode M_LW_law.2.1 920 = .ok (.aload_n 0, 1) := by decide +kernel
theorem d_LW_law_921 : decode M_LW_law.2.1 921 = .ok (.iload 4, 2) := by decide +kernel
theorem d_LW_law_923 : decode M_LW_law.2.1 923 = .ok (.iconst 1, 1) := by decide +kernel
theorem d_LW_law_924 : decode M_LW_law.2.1 924 = .ok (.iadd, 1) := by decide +kernel
theorem d_LW_law_925 : decode M_LW_law.2.1 925 = .ok (.iaload, 1) := by decide +kernel
theorem d_LW_law_926 : decode M_LW_law.2.1 926 = .ok (.invokevirtual 117, 3) := by decide +kernel
theorem d_LW_law_929 : decode M_LW_law.2.1 929 = .ok (.istore 6, 2) := by decide +kernel
theorem d_LW_law_931 : decode M_LW_law.2.1 931 = .ok (.aload_n 2, 1) := by decide +kernel
theorem d_LW_law_932 : decode M_LW_law.2.1 932 = .ok (.invokevirtual 70, 3) := by decide +kernel
theorem d_LW_law_935 : decode M_LW_law.2.1 935 = .ok (.iload 5, 2) := by decide +kernel
theorem d_LW_law_937 : decode M_LW_law.2.1 937 = .ok (.if_icmp .eq 5, 3) := by decide +kernel
theorem d_LW_law_940 : decode M_LW_law.2.1 940 = .ok (.iconst 0, 1) := by decide +kernel
theorem d_LW_law_941 : decode M_LW_law.2.1 941 = .ok (.ireturn, 1) := by decide +kernel
theorem d_LW_law_942 : decode M_LW_law.2.1 942 = .ok (.iload 5, 2) := by decide +kernel
theorem d_LW_law_944 : decode M_LW_law.2.1 944 = .ok (.ifCond .ne 15, 3) := by decide +kernel
theorem d_LW_law_947 : decode M_LW_law.2.1 947 = .ok (.aload_n 3, 1) := by decide +kernel
theorem d_LW_law_948 : decode M_LW_law.2.1 948 = .ok (.iconst 0, 1) := by decide +kernel
theorem d_LW_law_949 : decode M_LW_law.2.1 949 = .ok (.laload, 1) := by decide +kernel
theorem d_LW_law_950 : decode M_LW_law.2.1 950 = .ok (.iload 6, 2) := by decide +kernel
theorem d_LW_law_952 : decode M_LW_law.2.1 952 = .ok (.i2l, 1) := by decide +kernel
theorem d_LW_law_953 : decode M_LW_law.2.1 953 = .ok (.lcmp, 1) := by decide +kernel
theorem d_LW_law_954 : decode M_LW_law.2.1 954 = .ok (.ifCond .eq 5, 3) := by decide +kernel
theorem d_LW_law_957 : decode M_LW_law.2.1 957 = .ok (.iconst 0, 1) := by decide +kernel
theorem d_LW_law_958 : decode M_LW_law.2.1 958 = .ok (.ireturn, 1) := by decide +kernel
theorem d_LW_law_959 : decode M_LW_law.2.1 959 = .ok (.goto 122, 3) := by decide +kernel
theorem d_LW_law_962 : decode M_LW_law.2.1 962 = .ok (.aload_n 1, 1) := by decide +kernel
theorem d_LW_law_963 : decode M_LW_law.2.1 963 = .ok (.aload_n 0, 1) := by decide +kernel
theorem d_LW_law_964 : decode M_LW_law.2.1 964 = .ok (.iload 4, 2) := by decide +kernel
theorem d_LW_law_966 : decode M_LW_law.2.1 966 = .ok (.iconst 1, 1) := by decide +kernel
theorem d_LW_law_967 : decode M_LW_law.2.1 967 = .ok (.iadd, 1) := by decide +kernel
theorem d_LW_law_968 : decode M_LW_law.2.1 968 = .ok (.iaload, 1) := by decide +kernel
theorem d_LW_law_969 : decode M_LW_law.2.1 969 = .ok (.aload_n 0, 1) := by decide +kernel
theorem d_LW_law_970 : decode M_LW_law.2.1 970 = .ok (.iload 4, 2) := by decide +kernel
theorem d_LW_law_972 : decode M_LW_law.2.1 972 = .ok (.iconst 2, 1) := by decide +kernel
theorem d_LW_law_973 : decode M_LW_law.2.1 973 = .ok (.iadd, 1) := by decide +kernel
theorem d_LW_law_974 : decode M_LW_law.2.1 974 = .ok (.iaload, 1) := by decide +kernel
theorem d_LW_law_975 : decode M_LW_law.2.1 975 = .ok (.aload_n 3, 1) := by decide +kernel
theorem d_LW_law_976 : decode M_LW_law.2.1 976 = .ok (.invokestatic 118, 3) := by decide +kernel
theorem d_LW_law_979 : decode M_LW_law.2.1 979 = .ok (.istore 5, 2) := by decide +kernel
theorem d_LW_law_981 : decode M_LW_law.2.1 981 = .ok (.aload_n 2, 1) := by decide +kernel
theorem d_LW_law_982 : decode M_LW_law.2.1 982 = .ok (.aload_n 0, 1) := by decide +kernel
theorem d_LW_law_983 : decode M_LW_law.2.1 983 = .ok (.iload 4, 2) := by decide +kernel
theorem d_LW_law_985 : decode M_LW_law.2.1 985 = .ok (.iconst 1, 1) := by decide +kernel
theorem d_LW_law_986 : decode M_LW_law.2.1 986 = .ok (.iadd, 1) := by decide +kernel
theorem d_LW_law_987 : decode M_LW_law.2.1 987 = .ok (.iaload, 1) := by decide +kernel
theorem d_LW_law_988 : decode M_LW_law.2.1 988 = .ok (.aload_n 0, 1) := by decide +kernel
theorem d_LW_law_989 : decode M_LW_law.2.1 989 = .ok (.iload 4, 2) := by decide +kernel
theorem d_LW_law_991 : decode M_LW_law.2.1 991 = .ok (.iconst 2, 1) := by decide +kernel
theorem d_LW_law_992 : decode M_LW_law.2.1 992 = .ok (.iadd, 1) := by decide +kernel
theorem d_LW_law_993 : decode M_LW_law.2.1 993 = .ok (.iaload, 1) := by decide +kernel
theorem d_LW_law_994 : decode M_LW_law.2.1 994 = .ok (.invokevirtual 120, 3) := by decide +kernel
theorem d_LW_law_997 : decode M_LW_law.2.1 997 = .ok (.istore 6, 2) := by decide +kernel
theorem d_LW_law_999 : decode M_LW_law.2.1 999 = .ok (.aload_n 2, 1) := by decide +kernel
theorem d_LW_law_1000 : decode M_LW_law.2.1 1000 = .ok (.invokevirtual 70, 3) := by decide +kernel
theorem d_LW_law_1003 : decode M_LW_law.2.1 1003 = .ok (.iload 5, 2) := by decide +kernel
theorem d_LW_law_1005 : decode M_LW_law.2.1 1005 = .ok (.if_icmp .eq 5, 3) := by decide +kernel
theorem d_LW_law_1008 : decode M_LW_law.2.1 1008 = .ok (.iconst 0, 1) := by decide +kernel
theorem d_LW_law_1009 : decode M_LW_law.2.1 1009 = .ok (.ireturn, 1) := by decide +kernel
theorem d_LW_law_1010 : decode M_LW_law.2.1 1010 = .ok (.iload 5, 2) := by decide +kernel
theorem d_LW_law_1012 : decode M_LW_law.2.1 1012 = .ok (.ifCond .ne 15, 3) := by decide +kernel
theorem d_LW_law_1015 : decode M_LW_law.2.1 1015 = .ok (.aload_n 3, 1) := by decide +kernel
theorem d_LW_law_1016 : decode M_LW_law.2.1 1016 = .ok (.iconst 0, 1) := by decide +kernel
theorem d_LW_law_1017 : decode M_LW_law.2.1 1017 = .ok (.laload, 1) := by decide +kernel
theorem d_LW_law_1018 : decode M_LW_law.2.1 1018 = .ok (.iload 6, 2) := by decide +kernel
theorem d_LW_law_1020 : decode M_LW_law.2.1 1020 = .ok (.i2l, 1) := by decide +kernel
theorem d_LW_law_1021 : decode M_LW_law.2.1 1021 = .ok (.lcmp, 1) := by decide +kernel
theorem d_LW_law_1022 : decode M_LW_law.2.1 1022 = .ok (.ifCond .eq 5, 3) := by decide +kernel
theorem d_LW_law_1025 : decode M_LW_law.2.1 1025 = .ok (.iconst 0, 1) := by decide +kernel
theorem d_LW_law_1026 : decode M_LW_law.2.1 1026 = .ok (.ireturn, 1) := by decide +kernel
theorem d_LW_law_1027 : decode M_LW_law.2.1 1027 = .ok (.goto 54, 3) := by decide +kernel
theorem d_LW_law_1030 : decode M_LW_law.2.1 1030 = .ok (.aload_n 1, 1) := by decide +kernel
theorem d_LW_law_1031 : decode M_LW_law.2.1 1031 = .ok (.aload_n 3, 1) := by decide +kernel
theorem d_LW_law_1032 : decode M_LW_law.2.1 1032 = .ok (.invokestatic 121, 3) := by decide +kernel
theorem d_LW_law_1035 : decode M_LW_law.2.1 1035 = .ok (.istore 5, 2) := by decide +kernel
theorem d_LW_law_1037 : decode M_LW_law.2.1 1037 = .ok (.aload_n 2, 1) := by decide +kernel
theorem d_LW_law_1038 : decode M_LW_law.2.1 1038 = .ok (.invokevirtual 124, 3) := by decide +kernel
theorem d_LW_law_1041 : decode M_LW_law.2.1 1041 = .ok (.istore 6, 2) := by decide +kernel
theorem d_LW_law_1043 : decode M_LW_law.2.1 1043 = .ok (.aload_n 2, 1) := by decide +kernel
theorem d_LW_law_1044 : decode M_LW_law.2.1 1044 = .ok (.invokevirtual 70, 3) := by decide +kernel
theorem d_LW_law_1047 : decode M_LW_law.2.1 1047 = .ok (.iload 5, 2) := by decide +kernel
theorem d_LW_law_1049 : decode M_LW_law.2.1 1049 = .ok (.if_icmp .eq 5, 3) := by decide +kernel
theorem d_LW_law_1052 : decode M_LW_law.2.1 1052 = .ok (.iconst 0, 1) := by decide +kernel
theorem d_LW_law_1053 : decode M_LW_law.2.1 1053 = .ok (.ireturn, 1) := by decide +kernel
theorem d_LW_law_1054 : decode M_LW_law.2.1 1054 = .ok (.iload 5, 2) := by decide +kernel
theorem d_LW_law_1056 : decode M_LW_law.2.1 1056 = .ok (.ifCond .ne 22, 3) := by decide +kernel
theorem d_LW_law_1059 : decode M_LW_law.2.1 1059 = .ok (.aload_n 3, 1) := by decide +kernel
theorem d_LW_law_1060 : decode M_LW_law.2.1 1060 = .ok (.iconst 0, 1) := by decide +kernel
theorem d_LW_law_1061 : decode M_LW_law.2.1 1061 = .ok (.laload, 1) := by decide +kernel
theorem d_LW_law_1062 : decode M_LW_law.2.1 1062 = .ok (.iload 6, 2) := by decide +kernel
theorem d_LW_law_1064 : decode M_LW_law.2.1 1064 = .ok (.ifCond .eq 7, 3) := by decide +kernel
theorem d_LW_law_1067 : decode M_LW_law.2.1 1067 = .ok (.lconst 1, 1) := by decide +kernel
theorem d_LW_law_1068 : decode M_LW_law.2.1 1068 = .ok (.goto 4, 3) := by decide +kernel
theorem d_LW_law_1071 : decode M_LW_law.2.1 1071 = .ok (.lconst 0, 1) := by decide +kernel
theorem d_LW_law_1072 : decode M_LW_law.2.1 1072 = .ok (.lcmp, 1) := by decide +kernel
theorem d_LW_law_1073 : decode M_LW_law.2.1 1073 = .ok (.ifCond .eq 5, 3) := by decide +kernel
theorem d_LW_law_1076 : decode M_LW_law.2.1 1076 = .ok (.iconst 0, 1) := by decide +kernel
theorem d_LW_law_1077 : decode M_LW_law.2.1 1077 = .ok (.ireturn, 1) := by decide +kernel
theorem d_LW_law_1078 : decode M_LW_law.2.1 1078 = .ok (.goto 3, 3) := by decide +kernel
theorem d_LW_law_1081 : decode M_LW_law.2.1 1081 = .ok (.iinc 4 6, 3) := by decide +kernel
theorem d_LW_law_1084 : decode M_LW_law.2.1 1084 = .ok (.goto (-1061), 3) := by decide +kernel
theorem d_LW_law_1087 : decode M_LW_law.2.1 1087 = .ok (.iconst 1, 1) := by decide +kernel
theorem d_LW_law_1088 : decode M_LW_law.2.1 1088 = .ok (.ireturn, 1) := by decide +kernel
def B_LW_law_1081 (L : Nat) (xs : Nat → Int32) (K23 : Int32 → x_m → Option (Int32 × x_m)) (l4 : Int32) (m : x_m) : Option (Int32 × x_m) := K23 (l4 + 6) m
theorem b_LW_law_1081 {G : x_G} {r : Int32 × x_m} {L : Nat} {xs : Nat → Int32} (hX : va_X G.2.2.2.1.2 L xs (x_s0 G) (x_s0 G).heap) (hC : x_C G 39 = G.2.2.2.1.2) {cz sz : Nat} (hcz : cz + 2 ≤ 601024) (hsz : sz + 12 ≤ 7293034) {K23 : Int32 → x_m → Option (Int32 × x_m)} (hK23 : ∀ (l4 : Int32) (m : x_m), K23 l4 m = some r → x_W G M_LW_law room_1 (x_Q G room_1 false (x_pi r)) false x_np (x_hp m) (cz + 2) (sz + 12) [(0, .ref (x_N + 39)), (1, .ref 0), (2, .ref 387), (3, .ref 424), (4, .int l4)] [] 23) {l4 : Int32} {m : x_m} (h : B_LW_law_1081 L xs K23 l4 m = some r) : x_W G M_LW_law room_1 (x_Q G room_1 false (x_pi r)) false x_np (x_hp m) (cz + 2) (sz + 12) [(0, .ref (x_N + 39)), (1, .ref 0), (2, .ref 387), (3, .ref 424), (4, .int l4)] [] 1081 := by
  unfold B_LW_law_1081 at h
  refine x_iinc (v := l4 + 6) (lv2 := [(0, .ref (x_N + 39)), (1, .ref 0), (2, .ref 387), (3, .ref 424), (4, .int (l4 + 6))]) d_LW_law_1081 rfl rfl (by decide) rfl ?_
  refine x_goto (tgt := 23) d_LW_law_1084 (by decide) ?_
  exact hK23 _ _ h
def B_LW_law_1078 (L : Nat) (xs : Nat → Int32) (K23 : Int32 → x_m → Option (Int32 × x_m)) (l4 : Int32) (m : x_m) : Option (Int32 × x_m) := B_LW_law_1081 L xs K23 l4 m
theorem b_LW_law_1078 {G : x_G} {r : Int32 × x_m} {L : Nat} {xs : Nat → Int32} (hX : va_X G.2.2.2.1.2 L xs (x_s0 G) (x_s0 G).heap) (hC : x_C G 39 = G.2.2.2.1.2) {cz sz : Nat} (hcz : cz + 2 ≤ 601024) (hsz : sz + 12 ≤ 7293034) {K23 : Int32 → x_m → Option (Int32 × x_m)} (hK23 : ∀ (l4 : Int32) (m : x_m), K23 l4 m = some r → x_W G M_LW_law room_1 (x_Q G room_1 false (x_pi r)) false x_np (x_hp m) (cz + 2) (sz + 12) [(0, .ref (x_N + 39)), (1, .ref 0), (2, .ref 387), (3, .ref 424), (4, .int l4)] [] 23) {l4 : Int32} {m : x_m} (h : B_LW_law_1078 L xs K23 l4 m = some r) : x_W G M_LW_law room_1 (x_Q G room_1 false (x_pi r)) false x_np (x_hp m) (cz + 2) (sz + 12) [(0, .ref (x_N + 39)), (1, .ref 0), (2, .ref 387), (3, .ref 424), (4, .int l4)] [] 1078 := by
  unfold B_LW_law_1078 at h
  refine x_goto (tgt := 1081) d_LW_law_1078 (by decide) ?_
  first | exact b_LW_law_1081 hX hC hcz hsz hK23 h | (refine x_wide (c1 := cz + 2) (s1 := sz + 12) (by omega) (by omega) ?_; exact b_LW_law_1081 hX hC hcz hsz hK23 h)
def B_LW_law_1072 (L : Nat) (xs : Nat → Int32) (K23 : Int32 → x_m → Option (Int32 × x_m)) (l4 : Int32) (s0 : Int64) (s1 : Int64) (m : x_m) : Option (Int32 × x_m) := (if (lg_cmp s1 s0) = 0 then B_LW_law_1078 L xs K23 l4 m else some (0, m))
theorem b_LW_law_1072 {G : x_G} {r : Int32 × x_m} {L : Nat} {xs : Nat → Int32} (hX : va_X G.2.2.2.1.2 L xs (x_s0 G) (x_s0 G).heap) (hC : x_C G 39 = G.2.2.2.1.2) {cz sz : Nat} (hcz : cz + 2 ≤ 601024) (hsz : sz + 12 ≤ 7293034) {K23 : Int32 → x_m → Option (Int32 × x_m)} (hK23 : ∀ (l4 : Int32) (m : x_m), K23 l4 m = some r → x_W G M_LW_law room_1 (x_Q G room_1 false (x_pi r)) false x_np (x_hp m) (cz + 2) (sz + 12) [(0, .ref (x_N + 39)), (1, .ref 0), (2, .ref 387), (3, .ref 424), (4, .int l4)] [] 23) {l4 : Int32} {s0 : Int64} {s1 : Int64} {m : x_m} (h : B_LW_law_1072 L xs K23 l4 s0 s1 m = some r) : x_W G M_LW_law room_1 (x_Q G room_1 false (x_pi r)) false x_np (x_hp m) (cz + 2) (sz + 12) [(0, .ref (x_N + 39)), (1, .ref 0), (2, .ref 387), (3, .ref 424), (4, .int l4)] [.long s0, .long s1] 1072 := by
  unfold B_LW_law_1072 at h
  refine x_lcmp d_LW_law_1072 ?_
  refine x_if_eq (tgt := 1078) d_LW_law_1073 (by decide) (fun c_ => ?_) (fun c_ => ?_)
  · replace h := x_it h c_
    first | exact b_LW_law_1078 hX hC hcz hsz hK23 h | (refine x_wide (c1 := cz + 2) (s1 := sz + 12) (by omega) (by omega) ?_; exact b_LW_law_1078 hX hC hcz hsz hK23 h)
  · replace h := x_ie h c_
    refine x_iconst (v := 0) d_LW_law_1076 (by decide) ?_
    cases h
    exact x_wi d_LW_law_1077 rfl rfl (by show _ ≤ 601024; omega) (by show _ ≤ 7293034; omega)
def B_LW_law_1027 (L : Nat) (xs : Nat → Int32) (K23 : Int32 → x_m → Option (Int32 × x_m)) (l4 : Int32) (m : x_m) : Option (Int32 × x_m) := B_LW_law_1081 L xs K23 l4 m
theorem b_LW_law_1027 {G : x_G} {r : Int32 × x_m} {L : Nat} {xs : Nat → Int32} (hX : va_X G.2.2.2.1.2 L xs (x_s0 G) (x_s0 G).heap) (hC : x_C G 39 = G.2.2.2.1.2) {cz sz : Nat} (hcz : cz + 2 ≤ 601024) (hsz : sz + 12 ≤ 7293034) {K23 : Int32 → x_m → Option (Int32 × x_m)} (hK23 : ∀ (l4 : Int32) (m : x_m), K23 l4 m = some r → x_W G M_LW_law room_1 (x_Q G room_1 false (x_pi r)) false x_np (x_hp m) (cz + 2) (sz + 12) [(0, .ref (x_N + 39)), (1, .ref 0), (2, .ref 387), (3, .ref 424), (4, .int l4)] [] 23) {l4 : Int32} {m : x_m} (h : B_LW_law_1027 L xs K23 l4 m = some r) : x_W G M_LW_law room_1 (x_Q G room_1 false (x_pi r)) false x_np (x_hp m) (cz + 2) (sz + 12) [(0, .ref (x_N + 39)), (1, .ref 0), (2, .ref 387), (3, .ref 424), (4, .int l4)] [] 1027 := by
  unfold B_LW_law_1027 at h
  refine x_goto (tgt := 1081) d_LW_law_1027 (by decide) ?_
  first | exact b_LW_law_1081 hX hC hcz hsz hK23 h | (refine x_wide (c1 := cz + 2) (s1 := sz + 12) (by omega) (by omega) ?_; exact b_LW_law_1081 hX hC hcz hsz hK23 h)
def B_LW_law_959 (L : Nat) (xs : Nat → Int32) (K23 : Int32 → x_m → Option (Int32 × x_m)) (l4 : Int32) (m : x_m) : Option (Int32 × x_m) := B_LW_law_1081 L xs K23 l4 m
theorem b_LW_law_959 {G : x_G} {r : Int32 × x_m} {L : Nat} {xs : Nat → Int32} (hX : va_X G.2.2.2.1.2 L xs (x_s0 G) (x_s0 G).heap) (hC : x_C G 39 = G.2.2.2.1.2) {cz sz : Nat} (hcz : cz + 2 ≤ 601024) (hsz : sz + 12 ≤ 7293034) {K23 : Int32 → x_m → Option (Int32 × x_m)} (hK23 : ∀ (l4 : Int32) (m : x_m), K23 l4 m = some r → x_W G M_LW_law room_1 (x_Q G room_1 false (x_pi r)) false x_np (x_hp m) (cz + 2) (sz + 12) [(0, .ref (x_N + 39)), (1, .ref 0), (2, .ref 387), (3, .ref 424), (4, .int l4)] [] 23) {l4 : Int32} {m : x_m} (h : B_LW_law_959 L xs K23 l4 m = some r) : x_W G M_LW_law room_1 (x_Q G room_1 false (x_pi r)) false x_np (x_hp m) (cz + 2) (sz + 12) [(0, .ref (x_N + 39)), (1, .ref 0), (2, .ref 387), (3, .ref 424), (4, .int l4)] [] 959 := by
  unfold B_LW_law_959 at h
  refine x_goto (tgt := 1081) d_LW_law_959 (by decide) ?_
  first | exact b_LW_law_1081 hX hC hcz hsz hK23 h | (refine x_wide (c1 := cz + 2) (s1 := sz + 12) (by omega) (by omega) ?_; exact b_LW_law_1081 hX hC hcz hsz hK23 h)
def B_LW_law_903 (L : Nat) (xs : Nat → Int32) (K23 : Int32 → x_m → Option (Int32 × x_m)) (l4 : Int32) (m : x_m) : Option (Int32 × x_m) := B_LW_law_1081 L xs K23 l4 m
theorem b_LW_law_903 {G : x_G} {r : Int32 × x_m} {L : Nat} {xs : Nat → Int32} (hX : va_X G.2.2.2.1.2 L xs (x_s0 G) (x_s0 G).heap) (hC : x_C G 39 = G.2.2.2.1.2) {cz sz : Nat} (hcz : cz + 2 ≤ 601024) (hsz : sz + 12 ≤ 7293034) {K23 : Int32 → x_m → Option (Int32 × x_m)} (hK23 : ∀ (l4 : Int32) (m : x_m), K23 l4 m = some r → x_W G M_LW_law room_1 (x_Q G room_1 false (x_pi r)) false x_np (x_hp m) (cz + 2) (sz + 12) [(0, .ref (x_N + 39)), (1, .ref 0), (2, .ref 387), (3, .ref 424), (4, .int l4)] [] 23) {l4 : Int32} {m : x_m} (h : B_LW_law_903 L xs K23 l4 m = some r) : x_W G M_LW_law room_1 (x_Q G room_1 false (x_pi r)) false x_np (x_hp m) (cz + 2) (sz + 12) [(0, .ref (x_N + 39)), (1, .ref 0), (2, .ref 387), (3, .ref 424), (4, .int l4)] [] 903 := by
  unfold B_LW_law_903 at h
  refine x_goto (tgt := 1081) d_LW_law_903 (by decide) ?_
  first | exact b_LW_law_1081 hX hC hcz hsz hK23 h | (refine x_wide (c1 := cz + 2) (s1 := sz + 12) (by omega) (by omega) ?_; exact b_LW_law_1081 hX hC hcz hsz hK23 h)
def B_LW_law_847 (L : Nat) (xs : Nat → Int32) (K23 : Int32 → x_m → Option (Int32 × x_m)) (l4 : Int32) (m : x_m) : Option (Int32 × x_m) := B_LW_law_1081 L xs K23 l4 m
theorem b_LW_law_847 {G : x_G} {r : Int32 × x_m} {L : Nat} {xs : Nat → Int32} (hX : va_X G.2.2.2.1.2 L xs (x_s0 G) (x_s0 G).heap) (hC : x_C G 39 = G.2.2.2.1.2) {cz sz : Nat} (hcz : cz + 2 ≤ 601024) (hsz : sz + 12 ≤ 7293034) {K23 : Int32 → x_m → Option (Int32 × x_m)} (hK23 : ∀ (l4 : Int32) (m : x_m), K23 l4 m = some r → x_W G M_LW_law room_1 (x_Q G room_1 false (x_pi r)) false x_np (x_hp m) (cz + 2) (sz + 12) [(0, .ref (x_N + 39)), (1, .ref 0), (2, .ref 387), (3, .ref 424), (4, .int l4)] [] 23) {l4 : Int32} {m : x_m} (h : B_LW_law_847 L xs K23 l4 m = some r) : x_W G M_LW_law room_1 (x_Q G room_1 false (x_pi r)) false x_np (x_hp m) (cz + 2) (sz + 12) [(0, .ref (x_N + 39)), (1, .ref 0), (2, .ref 387), (3, .ref 424), (4, .int l4)] [] 847 := by
  unfold B_LW_law_847 at h
  refine x_goto (tgt := 1081) d_LW_law_847 (by decide) ?_
  first | exact b_LW_law_1081 hX hC hcz hsz hK23 h | (refine x_wide (c1 := cz + 2) (s1 := sz + 12) (by omega) (by omega) ?_; exact b_LW_law_1081 hX hC hcz hsz hK23 h)
def B_LW_law_779 (L : Nat) (xs : Nat → Int32) (K23 : Int32 → x_m → Option (Int32 × x_m)) (l4 : Int32) (m : x_m) : Option (Int32 × x_m) := B_LW_law_1081 L xs K23 l4 m
theorem b_LW_law_779 {G : x_G} {r : Int32 × x_m} {L : Nat} {xs : Nat → Int32} (hX : va_X G.2.2.2.1.2 L xs (x_s0 G) (x_s0 G).heap) (hC : x_C G 39 = G.2.2.2.1.2) {cz sz : Nat} (hcz : cz + 2 ≤ 601024) (hsz : sz + 12 ≤ 7293034) {K23 : Int32 → x_m → Option (Int32 × x_m)} (hK23 : ∀ (l4 : Int32) (m : x_m), K23 l4 m = some r → x_W G M_LW_law room_1 (x_Q G room_1 false (x_pi r)) false x_np (x_hp m) (cz + 2) (sz + 12) [(0, .ref (x_N + 39)), (1, .ref 0), (2, .ref 387), (3, .ref 424), (4, .int l4)] [] 23) {l4 : Int32} {m : x_m} (h : B_LW_law_779 L xs K23 l4 m = some r) : x_W G M_LW_law room_1 (x_Q G room_1 false (x_pi r)) false x_np (x_hp m) (cz + 2) (sz + 12) [(0, .ref (x_N + 39)), (1, .ref 0), (2, .ref 387), (3, .ref 424), (4, .int l4)] [] 779 := by
  unfold B_LW_law_779 at h
  refine x_goto (tgt := 1081) d_LW_law_779 (by decide) ?_
  first | exact b_LW_law_1081 hX hC hcz hsz hK23 h | (refine x_wide (c1 := cz + 2) (s1 := sz + 12) (by omega) (by omega) ?_; exact b_LW_law_1081 hX hC hcz hsz hK23 h)
def B_LW_law_711 (L : Nat) (xs : Nat → Int32) (K23 : Int32 → x_m → Option (Int32 × x_m)) (l4 : Int32) (m : x_m) : Option (Int32 × x_m) := B_LW_law_1081 L xs K23 l4 m
theorem b_LW_law_711 {G : x_G} {r : Int32 × x_m} {L : Nat} {xs : Nat → Int32} (hX : va_X G.2.2.2.1.2 L xs (x_s0 G) (x_s0 G).heap) (hC : x_C G 39 = G.2.2.2.1.2) {cz sz : Nat} (hcz : cz + 2 ≤ 601024) (hsz : sz + 12 ≤ 7293034) {K23 : Int32 → x_m → Option (Int32 × x_m)} (hK23 : ∀ (l4 : Int32) (m : x_m), K23 l4 m = some r → x_W G M_LW_law room_1 (x_Q G room_1 false (x_pi r)) false x_np (x_hp m) (cz + 2) (sz + 12) [(0, .ref (x_N + 39)), (1, .ref 0), (2, .ref 387), (3, .ref 424), (4, .int l4)] [] 23) {l4 : Int32} {m : x_m} (h : B_LW_law_711 L xs K23 l4 m = some r) : x_W G M_LW_law room_1 (x_Q G room_1 false (x_pi r)) false x_np (x_hp m) (cz + 2) (sz + 12) [(0, .ref (x_N + 39)), (1, .ref 0), (2, .ref 387), (3, .ref 424), (4, .int l4)] [] 711 := by
  unfold B_LW_law_711 at h
  refine x_goto (tgt := 1081) d_LW_law_711 (by decide) ?_
  first | exact b_LW_law_1081 hX hC hcz hsz hK23 h | (refine x_wide (c1 := cz + 2) (s1 := sz + 12) (by omega) (by omega) ?_; exact b_LW_law_1081 hX hC hcz hsz hK23 h)
def B_LW_law_643 (L : Nat) (xs : Nat → Int32) (K23 : Int32 → x_m → Option (Int32 × x_m)) (l4 : Int32) (m : x_m) : Option (Int32 × x_m) := B_LW_law_1081 L xs K23 l4 m
theorem b_LW_law_643 {G : x_G} {r : Int32 × x_m} {L : Nat} {xs : Nat → Int32} (hX : va_X G.2.2.2.1.2 L xs (x_s0 G) (x_s0 G).heap) (hC : x_C G 39 = G.2.2.2.1.2) {cz sz : Nat} (hcz : cz + 2 ≤ 601024) (hsz : sz + 12 ≤ 7293034) {K23 : Int32 → x_m → Option (Int32 × x_m)} (hK23 : ∀ (l4 : Int32) (m : x_m), K23 l4 m = some r → x_W G M_LW_law room_1 (x_Q G room_1 false (x_pi r)) false x_np (x_hp m) (cz + 2) (sz + 12) [(0, .ref (x_N + 39)), (1, .ref 0), (2, .ref 387), (3, .ref 424), (4, .int l4)] [] 23) {l4 : Int32} {m : x_m} (h : B_LW_law_643 L xs K23 l4 m = some r) : x_W G M_LW_law room_1 (x_Q G room_1 false (x_pi r)) false x_np (x_hp m) (cz + 2) (sz + 12) [(0, .ref (x_N + 39)), (1, .ref 0), (2, .ref 387), (3, .ref 424), (4, .int l4)] [] 643 := by
  unfold B_LW_law_643 at h
  refine x_goto (tgt := 1081) d_LW_law_643 (by decide) ?_
  first | exact b_LW_law_1081 hX hC hcz hsz hK23 h | (refine x_wide (c1 := cz + 2) (s1 := sz + 12) (by omega) (by omega) ?_; exact b_LW_law_1081 hX hC hcz hsz hK23 h)
def B_LW_law_563 (L : Nat) (xs : Nat → Int32) (K23 : Int32 → x_m → Option (Int32 × x_m)) (l4 : Int32) (m : x_m) : Option (Int32 × x_m) := B_LW_law_1081 L xs K23 l4 m
theorem b_LW_law_563 {G : x_G} {r : Int32 × x_m} {L : Nat} {xs : Nat → Int32} (hX : va_X G.2.2.2.1.2 L xs (x_s0 G) (x_s0 G).heap) (hC : x_C G 39 = G.2.2.2.1.2) {cz sz : Nat} (hcz : cz + 2 ≤ 601024) (hsz : sz + 12 ≤ 7293034) {K23 : Int32 → x_m → Option (Int32 × x_m)} (hK23 : ∀ (l4 : Int32) (m : x_m), K23 l4 m = some r → x_W G M_LW_law room_1 (x_Q G room_1 false (x_pi r)) false x_np (x_hp m) (cz + 2) (sz + 12) [(0, .ref (x_N + 39)), (1, .ref 0), (2, .ref 387), (3, .ref 424), (4, .int l4)] [] 23) {l4 : Int32} {m : x_m} (h : B_LW_law_563 L xs K23 l4 m = some r) : x_W G M_LW_law room_1 (x_Q G room_1 false (x_pi r)) false x_np (x_hp m) (cz + 2) (sz + 12) [(0, .ref (x_N + 39)), (1, .ref 0), (2, .ref 387), (3, .ref 424), (4, .int l4)] [] 563 := by
  unfold B_LW_law_563 at h
  refine x_goto (tgt := 1081) d_LW_law_563 (by decide) ?_
  first | exact b_LW_law_1081 hX hC hcz hsz hK23 h | (refine x_wide (c1 := cz + 2) (s1 := sz + 12) (by omega) (by omega) ?_; exact b_LW_law_1081 hX hC hcz hsz hK23 h)
def B_LW_law_483 (L : Nat) (xs : Nat → Int32) (K23 : Int32 → x_m → Option (Int32 × x_m)) (l4 : Int32) (m : x_m) : Option (Int32 × x_m) := B_LW_law_1081 L xs K23 l4 m
theorem b_LW_law_483 {G : x_G} {r : Int32 × x_m} {L : Nat} {xs : Nat → Int32} (hX : va_X G.2.2.2.1.2 L xs (x_s0 G) (x_s0 G).heap) (hC : x_C G 39 = G.2.2.2.1.2) {cz sz : Nat} (hcz : cz + 2 ≤ 601024) (hsz : sz + 12 ≤ 7293034) {K23 : Int32 → x_m → Option (Int32 × x_m)} (hK23 : ∀ (l4 : Int32) (m : x_m), K23 l4 m = some r → x_W G M_LW_law room_1 (x_Q G room_1 false (x_pi r)) false x_np (x_hp m) (cz + 2) (sz + 12) [(0, .ref (x_N + 39)), (1, .ref 0), (2, .ref 387), (3, .ref 424), (4, .int l4)] [] 23) {l4 : Int32} {m : x_m} (h : B_LW_law_483 L xs K23 l4 m = some r) : x_W G M_LW_law room_1 (x_Q G room_1 false (x_pi r)) false x_np (x_hp m) (cz + 2) (sz + 12) [(0, .ref (x_N + 39)), (1, .ref 0), (2, .ref 387), (3, .ref 424), (4, .int l4)] [] 483 := by
  unfold B_LW_law_483 at h
  refine x_goto (tgt := 1081) d_LW_law_483 (by decide) ?_
  first | exact b_LW_law_1081 hX hC hcz hsz hK23 h | (refine x_wide (c1 := cz + 2) (s1 := sz + 12) (by omega) (by omega) ?_; exact b_LW_law_1081 hX hC hcz hsz hK23 h)
def B_LW_law_415 (L : Nat) (xs : Nat → Int32) (K23 : Int32 → x_m → Option (Int32 × x_m)) (l4 : Int32) (m : x_m) : Option (Int32 × x_m) := B_LW_law_1081 L xs K23 l4 m
theorem b_LW_law_415 {G : x_G} {r : Int32 × x_m} {L : Nat} {xs : Nat → Int32} (hX : va_X G.2.2.2.1.2 L xs (x_s0 G) (x_s0 G).heap) (hC : x_C G 39 = G.2.2.2.1.2) {cz sz : Nat} (hcz : cz + 2 ≤ 601024) (hsz : sz + 12 ≤ 7293034) {K23 : Int32 → x_m → Option (Int32 × x_m)} (hK23 : ∀ (l4 : Int32) (m : x_m), K23 l4 m = some r → x_W G M_LW_law room_1 (x_Q G room_1 false (x_pi r)) false x_np (x_hp m) (cz + 2) (sz + 12) [(0, .ref (x_N + 39)), (1, .ref 0), (2, .ref 387), (3, .ref 424), (4, .int l4)] [] 23) {l4 : Int32} {m : x_m} (h : B_LW_law_415 L xs K23 l4 m = some r) : x_W G M_LW_law room_1 (x_Q G room_1 false (x_pi r)) false x_np (x_hp m) (cz + 2) (sz + 12) [(0, .ref (x_N + 39)), (1, .ref 0), (2, .ref 387), (3, .ref 424), (4, .int l4)] [] 415 := by
  unfold B_LW_law_415 at h
  refine x_goto (tgt := 1081) d_LW_law_415 (by decide) ?_
  first | exact b_LW_law_1081 hX hC hcz hsz hK23 h | (refine x_wide (c1 := cz + 2) (s1 := sz + 12) (by omega) (by omega) ?_; exact b_LW_law_1081 hX hC hcz hsz hK23 h)
def B_LW_law_346 (L : Nat) (xs : Nat → Int32) (K23 : Int32 → x_m → Option (Int32 × x_m)) (l4 : Int32) (m : x_m) : Option (Int32 × x_m) := B_LW_law_1081 L xs K23 l4 m
theorem b_LW_law_346 {G : x_G} {r : Int32 × x_m} {L : Nat} {xs : Nat → Int32} (hX : va_X G.2.2.2.1.2 L xs (x_s0 G) (x_s0 G).heap) (hC : x_C G 39 = G.2.2.2.1.2) {cz sz : Nat} (hcz : cz + 2 ≤ 601024) (hsz : sz + 12 ≤ 7293034) {K23 : Int32 → x_m → Option (Int32 × x_m)} (hK23 : ∀ (l4 : Int32) (m : x_m), K23 l4 m = some r → x_W G M_LW_law room_1 (x_Q G room_1 false (x_pi r)) false x_np (x_hp m) (cz + 2) (sz + 12) [(0, .ref (x_N + 39)), (1, .ref 0), (2, .ref 387), (3, .ref 424), (4, .int l4)] [] 23) {l4 : Int32} {m : x_m} (h : B_LW_law_346 L xs K23 l4 m = some r) : x_W G M_LW_law room_1 (x_Q G room_1 false (x_pi r)) false x_np (x_hp m) (cz + 2) (sz + 12) [(0, .ref (x_N + 39)), (1, .ref 0), (2, .ref 387), (3, .ref 424), (4, .int l4)] [] 346 := by
  unfold B_LW_law_346 at h
  refine x_goto (tgt := 1081) d_LW_law_346 (by decide) ?_
  first | exact b_LW_law_1081 hX hC hcz hsz hK23 h | (refine x_wide (c1 := cz + 2) (s1 := sz + 12) (by omega) (by omega) ?_; exact b_LW_law_1081 hX hC hcz hsz hK23 h)
def B_LW_law_277 (L : Nat) (xs : Nat → Int32) (K23 : Int32 → x_m → Option (Int32 × x_m)) (l4 : Int32) (m : x_m) : Option (Int32 × x_m) := B_LW_law_1081 L xs K23 l4 m
theorem b_LW_law_277 {G : x_G} {r : Int32 × x_m} {L : Nat} {xs : Nat → Int32} (hX : va_X G.2.2.2.1.2 L xs (x_s0 G) (x_s0 G).heap) (hC : x_C G 39 = G.2.2.2.1.2) {cz sz : Nat} (hcz : cz + 2 ≤ 601024) (hsz : sz + 12 ≤ 7293034) {K23 : Int32 → x_m → Option (Int32 × x_m)} (hK23 : ∀ (l4 : Int32) (m : x_m), K23 l4 m = some r → x_W G M_LW_law room_1 (x_Q G room_1 false (x_pi r)) false x_np (x_hp m) (cz + 2) (sz + 12) [(0, .ref (x_N + 39)), (1, .ref 0), (2, .ref 387), (3, .ref 424), (4, .int l4)] [] 23) {l4 : Int32} {m : x_m} (h : B_LW_law_277 L xs K23 l4 m = some r) : x_W G M_LW_law room_1 (x_Q G room_1 false (x_pi r)) false x_np (x_hp m) (cz + 2) (sz + 12) [(0, .ref (x_N + 39)), (1, .ref 0), (2, .ref 387), (3, .ref 424), (4, .int l4)] [] 277 := by
  unfold B_LW_law_277 at h
  refine x_goto (tgt := 1081) d_LW_law_277 (by decide) ?_
  first | exact b_LW_law_1081 hX hC hcz hsz hK23 h | (refine x_wide (c1 := cz + 2) (s1 := sz + 12) (by omega) (by omega) ?_; exact b_LW_law_1081 hX hC hcz hsz hK23 h)
def B_LW_law_221 (L : Nat) (xs : Nat → Int32) (K23 : Int32 → x_m → Option (Int32 × x_m)) (l4 : Int32) (m : x_m) : Option (Int32 × x_m) := B_LW_law_1081 L xs K23 l4 m
theorem b_LW_law_221 {G : x_G} {r : Int32 × x_m} {L : Nat} {xs : Nat → Int32} (hX : va_X G.2.2.2.1.2 L xs (x_s0 G) (x_s0 G).heap) (hC : x_C G 39 = G.2.2.2.1.2) {cz sz : Nat} (hcz : cz + 2 ≤ 601024) (hsz : sz + 12 ≤ 7293034) {K23 : Int32 → x_m → Option (Int32 × x_m)} (hK23 : ∀ (l4 : Int32) (m : x_m), K23 l4 m = some r → x_W G M_LW_law room_1 (x_Q G room_1 false (x_pi r)) false x_np (x_hp m) (cz + 2) (sz + 12) [(0, .ref (x_N + 39)), (1, .ref 0), (2, .ref 387), (3, .ref 424), (4, .int l4)] [] 23) {l4 : Int32} {m : x_m} (h : B_LW_law_221 L xs K23 l4 m = some r) : x_W G M_LW_law room_1 (x_Q G room_1 false (x_pi r)) false x_np (x_hp m) (cz + 2) (sz + 12) [(0, .ref (x_N + 39)), (1, .ref 0), (2, .ref 387), (3, .ref 424), (4, .int l4)] [] 221 := by
  unfold B_LW_law_221 at h
  refine x_goto (tgt := 1081) d_LW_law_221 (by decide) ?_
  first | exact b_LW_law_1081 hX hC hcz hsz hK23 h | (refine x_wide (c1 := cz + 2) (s1 := sz + 12) (by omega) (by omega) ?_; exact b_LW_law_1081 hX hC hcz hsz hK23 h)
def B_LW_law_23 (L : Nat) (xs : Nat → Int32) : Nat → Int32 → x_m → Option (Int32 × x_m)
  | 0, _, _ => none
  | f_ + 1, l4, m => (if ((Int32.ofNat L) - 6) < l4 then some (1, m) else (if x_ix l4 L = true then (if ((xs l4.toNatClampNeg) &&& 15) = 0 then (if x_ix (l4 + 1) L = true then (if x_ix (l4 + 2) L = true then (if x_ix (l4 + 3) L = true then (if x_ix (l4 + 4) L = true then (if x_ix (l4 + 5) L = true then ((F_LW_feed (xs (l4 + 1).toNatClampNeg) (xs (l4 + 2).toNatClampNeg) (xs (l4 + 3).toNatClampNeg) (xs (l4 + 4).toNatClampNeg) (xs (l4 + 5).toNatClampNeg) m).bind fun r152 => (if x_ix (l4 + 1) L = true then (if x_ix (l4 + 2) L = true then (if x_ix (l4 + 3) L = true then (if x_ix (l4 + 4) L = true then (if x_ix (l4 + 5) L = true then ((F_MD_feed (xs (l4 + 1).toNatClampNeg) (xs (l4 + 2).toNatClampNeg) (xs (l4 + 3).toNatClampNeg) (xs (l4 + 4).toNatClampNeg) (xs (l4 + 5).toNatClampNeg) r152.2).bind fun r188 => ((F_MD_thrown r188.2).bind fun r194 => (if r194.1 = r152.1 then (if r152.1 = 0 then (if (lg_cmp (r194.2.2.2.2 424 0) r188.1.toInt64) = 0 then B_LW_law_221 L xs (B_LW_law_23 L xs f_) l4 r194.2 else some (0, r194.2)) else B_LW_law_221 L xs (B_LW_law_23 L xs f_) l4 r194.2) else some (0, r194.2)))) else none) else none) else none) else none) else none)) else none) else none) else none) else none) else none) else (if ((xs l4.toNatClampNeg) &&& 15) = 1 then (if x_ix (l4 + 1) L = true then ((F_LW_trim (xs (l4 + 1).toNatClampNeg) m).bind fun r232 => (if x_ix (l4 + 1) L = true then ((F_MD_trim (xs (l4 + 1).toNatClampNeg) r232.2).bind fun r244 => ((F_MD_thrown r244.2).bind fun r250 => (if r250.1 = r232.1 then (if r232.1 = 0 then (if (lg_cmp (r250.2.2.2.2 424 0) r244.1.toInt64) = 0 then B_LW_law_277 L xs (B_LW_law_23 L xs f_) l4 r250.2 else some (0, r250.2)) else B_LW_law_277 L xs (B_LW_law_23 L xs f_) l4 r250.2) else some (0, r250.2)))) else none)) else none) else (if ((xs l4.toNatClampNeg) &&& 15) = 2 then ((F_QR_run m).bind fun r281 => ((F_MD_run r281.2).bind fun r285 => (if r281.1 = r285.1 then B_LW_law_1081 L xs (B_LW_law_23 L xs f_) l4 r285.2 else some (0, r285.2)))) else (if ((xs l4.toNatClampNeg) &&& 15) = 3 then (if x_ix (l4 + 1) L = true then ((F_LW_fault (xs (l4 + 1).toNatClampNeg) m).bind fun r301 => (if x_ix (l4 + 1) L = true then ((F_MD_fault (xs (l4 + 1).toNatClampNeg) r301.2).bind fun r313 => ((F_MD_thrown r313.2).bind fun r319 => (if r319.1 = r301.1 then (if r301.1 = 0 then (if (lg_cmp (r319.2.2.2.2 424 0) r313.1.toInt64) = 0 then B_LW_law_346 L xs (B_LW_law_23 L xs f_) l4 r319.2 else some (0, r319.2)) else B_LW_law_346 L xs (B_LW_law_23 L xs f_) l4 r319.2) else some (0, r319.2)))) else none)) else none) else (if ((xs l4.toNatClampNeg) &&& 15) = 4 then ((F_QR_open m).bind fun r350 => ((F_MD_open r350.2).bind fun r354 => (if r350.1 = r354.1 then B_LW_law_1081 L xs (B_LW_law_23 L xs f_) l4 r354.2 else some (0, r354.2)))) else (if ((xs l4.toNatClampNeg) &&& 15) = 5 then (if x_ix (l4 + 1) L = true then ((F_LW_count (xs (l4 + 1).toNatClampNeg) m).bind fun r370 => (if x_ix (l4 + 1) L = true then ((F_MD_count (xs (l4 + 1).toNatClampNeg) r370.2).bind fun r382 => ((F_MD_thrown r382.2).bind fun r388 => (if r388.1 = r370.1 then (if r370.1 = 0 then (if (lg_cmp (r388.2.2.2.2 424 0) r382.1.toInt64) = 0 then B_LW_law_415 L xs (B_LW_law_23 L xs f_) l4 r388.2 else some (0, r388.2)) else B_LW_law_415 L xs (B_LW_law_23 L xs f_) l4 r388.2) else some (0, r388.2)))) else none)) else none) else (if ((xs l4.toNatClampNeg) &&& 15) = 6 then (if x_ix (l4 + 1) L = true then (if x_ix (l4 + 2) L = true then ((F_LW_dimension (xs (l4 + 1).toNatClampNeg) (xs (l4 + 2).toNatClampNeg) m).bind fun r432 => (if x_ix (l4 + 1) L = true then (if x_ix (l4 + 2) L = true then ((F_MD_dimension2 (xs (l4 + 1).toNatClampNeg) (xs (l4 + 2).toNatClampNeg) r432.2).bind fun r450 => ((F_MD_thrown r450.2).bind fun r456 => (if r456.1 = r432.1 then (if r432.1 = 0 then (if (lg_cmp (r456.2.2.2.2 424 0) r450.1.toInt64) = 0 then B_LW_law_483 L xs (B_LW_law_23 L xs f_) l4 r456.2 else some (0, r456.2)) else B_LW_law_483 L xs (B_LW_law_23 L xs f_) l4 r456.2) else some (0, r456.2)))) else none) else none)) else none) else none) else (if ((xs l4.toNatClampNeg) &&& 15) = 7 then (if x_ix (l4 + 1) L = true then (if x_ix (l4 + 2) L = true then (if x_ix (l4 + 3) L = true then ((F_LW_value (xs (l4 + 1).toNatClampNeg) (xs (l4 + 2).toNatClampNeg) (xs (l4 + 3).toNatClampNeg) m).bind fun r506 => (if x_ix (l4 + 1) L = true then (if x_ix (l4 + 2) L = true then (if x_ix (l4 + 3) L = true then ((F_MD_value (xs (l4 + 1).toNatClampNeg) (xs (l4 + 2).toNatClampNeg) (xs (l4 + 3).toNatClampNeg) r506.2).bind fun r530 => ((F_MD_thrown r530.2).bind fun r536 => (if r536.1 = r506.1 then (if r506.1 = 0 then (if (lg_cmp (r536.2.2.2.2 424 0) r530.1.toInt64) = 0 then B_LW_law_563 L xs (B_LW_law_23 L xs f_) l4 r536.2 else some (0, r536.2)) else B_LW_law_563 L xs (B_LW_law_23 L xs f_) l4 r536.2) else some (0, r536.2)))) else none) else none) else none)) else none) else none) else none) else (if ((xs l4.toNatClampNeg) &&& 15) = 8 then (if x_ix (l4 + 1) L = true then (if x_ix (l4 + 2) L = true then (if x_ix (l4 + 3) L = true then ((F_LW_rank (xs (l4 + 1).toNatClampNeg) (xs (l4 + 2).toNatClampNeg) (xs (l4 + 3).toNatClampNeg) m).bind fun r586 => (if x_ix (l4 + 1) L = true then (if x_ix (l4 + 2) L = true then (if x_ix (l4 + 3) L = true then ((F_MD_rank (xs (l4 + 1).toNatClampNeg) (xs (l4 + 2).toNatClampNeg) (xs (l4 + 3).toNatClampNeg) r586.2).bind fun r610 => ((F_MD_thrown r610.2).bind fun r616 => (if r616.1 = r586.1 then (if r586.1 = 0 then (if (lg_cmp (r616.2.2.2.2 424 0) r610.1.toInt64) = 0 then B_LW_law_643 L xs (B_LW_law_23 L xs f_) l4 r616.2 else some (0, r616.2)) else B_LW_law_643 L xs (B_LW_law_23 L xs f_) l4 r616.2) else some (0, r616.2)))) else none) else none) else none)) else none) else none) else none) else (if ((xs l4.toNatClampNeg) &&& 15) = 9 then (if x_ix (l4 + 1) L = true then (if x_ix (l4 + 2) L = true then ((F_LW_find (xs (l4 + 1).toNatClampNeg) (xs (l4 + 2).toNatClampNeg) m).bind fun r660 => (if x_ix (l4 + 1) L = true then (if x_ix (l4 + 2) L = true then ((F_MD_find (xs (l4 + 1).toNatClampNeg) (xs (l4 + 2).toNatClampNeg) r660.2).bind fun r678 => ((F_MD_thrown r678.2).bind fun r684 => (if r684.1 = r660.1 then (if r660.1 = 0 then (if (lg_cmp (r684.2.2.2.2 424 0) r678.1.toInt64) = 0 then B_LW_law_711 L xs (B_LW_law_23 L xs f_) l4 r684.2 else some (0, r684.2)) else B_LW_law_711 L xs (B_LW_law_23 L xs f_) l4 r684.2) else some (0, r684.2)))) else none) else none)) else none) else none) else (if ((xs l4.toNatClampNeg) &&& 15) = 10 then (if x_ix (l4 + 1) L = true then (if x_ix (l4 + 2) L = true then ((F_LW_letter (xs (l4 + 1).toNatClampNeg) (xs (l4 + 2).toNatClampNeg) m).bind fun r728 => (if x_ix (l4 + 1) L = true then (if x_ix (l4 + 2) L = true then ((F_MD_letter (xs (l4 + 1).toNatClampNeg) (xs (l4 + 2).toNatClampNeg) r728.2).bind fun r746 => ((F_MD_thrown r746.2).bind fun r752 => (if r752.1 = r728.1 then (if r728.1 = 0 then (if (lg_cmp (r752.2.2.2.2 424 0) r746.1.toInt64) = 0 then B_LW_law_779 L xs (B_LW_law_23 L xs f_) l4 r752.2 else some (0, r752.2)) else B_LW_law_779 L xs (B_LW_law_23 L xs f_) l4 r752.2) else some (0, r752.2)))) else none) else none)) else none) else none) else (if ((xs l4.toNatClampNeg) &&& 15) = 11 then (if x_ix (l4 + 1) L = true then (if x_ix (l4 + 2) L = true then ((F_LW_item (xs (l4 + 1).toNatClampNeg) (xs (l4 + 2).toNatClampNeg) m).bind fun r796 => (if x_ix (l4 + 1) L = true then (if x_ix (l4 + 2) L = true then ((F_MD_item2 (xs (l4 + 1).toNatClampNeg) (xs (l4 + 2).toNatClampNeg) r796.2).bind fun r814 => ((F_MD_thrown r814.2).bind fun r820 => (if r820.1 = r796.1 then (if r796.1 = 0 then (if (lg_cmp (r820.2.2.2.2 424 0) r814.1.toInt64) = 0 then B_LW_law_847 L xs (B_LW_law_23 L xs f_) l4 r820.2 else some (0, r820.2)) else B_LW_law_847 L xs (B_LW_law_23 L xs f_) l4 r820.2) else some (0, r820.2)))) else none) else none)) else none) else none) else (if ((xs l4.toNatClampNeg) &&& 15) = 12 then (if x_ix (l4 + 1) L = true then ((F_LW_group (xs (l4 + 1).toNatClampNeg) m).bind fun r858 => (if x_ix (l4 + 1) L = true then ((F_MD_group (xs (l4 + 1).toNatClampNeg) r858.2).bind fun r870 => ((F_MD_thrown r870.2).bind fun r876 => (if r876.1 = r858.1 then (if r858.1 = 0 then (if (lg_cmp (r876.2.2.2.2 424 0) r870.1.toInt64) = 0 then B_LW_law_903 L xs (B_LW_law_23 L xs f_) l4 r876.2 else some (0, r876.2)) else B_LW_law_903 L xs (B_LW_law_23 L xs f_) l4 r876.2) else some (0, r876.2)))) else none)) else none) else (if ((xs l4.toNatClampNeg) &&& 15) = 13 then (if x_ix (l4 + 1) L = true then ((F_LW_set (xs (l4 + 1).toNatClampNeg) m).bind fun r914 => (if x_ix (l4 + 1) L = true then ((F_MD_set (xs (l4 + 1).toNatClampNeg) r914.2).bind fun r926 => ((F_MD_thrown r926.2).bind fun r932 => (if r932.1 = r914.1 then (if r914.1 = 0 then (if (lg_cmp (r932.2.2.2.2 424 0) r926.1.toInt64) = 0 then B_LW_law_959 L xs (B_LW_law_23 L xs f_) l4 r932.2 else some (0, r932.2)) else B_LW_law_959 L xs (B_LW_law_23 L xs f_) l4 r932.2) else some (0, r932.2)))) else none)) else none) else (if ((xs l4.toNatClampNeg) &&& 15) = 14 then (if x_ix (l4 + 1) L = true then (if x_ix (l4 + 2) L = true then ((F_LW_pick (xs (l4 + 1).toNatClampNeg) (xs (l4 + 2).toNatClampNeg) m).bind fun r976 => (if x_ix (l4 + 1) L = true then (if x_ix (l4 + 2) L = true then ((F_MD_pick (xs (l4 + 1).toNatClampNeg) (xs (l4 + 2).toNatClampNeg) r976.2).bind fun r994 => ((F_MD_thrown r994.2).bind fun r1000 => (if r1000.1 = r976.1 then (if r976.1 = 0 then (if (lg_cmp (r1000.2.2.2.2 424 0) r994.1.toInt64) = 0 then B_LW_law_1027 L xs (B_LW_law_23 L xs f_) l4 r1000.2 else some (0, r1000.2)) else B_LW_law_1027 L xs (B_LW_law_23 L xs f_) l4 r1000.2) else some (0, r1000.2)))) else none) else none)) else none) else none) else (if ((xs l4.toNatClampNeg) &&& 15) = 15 then ((F_LW_holds m).bind fun r1032 => ((F_MD_holds r1032.2).bind fun r1038 => ((F_MD_thrown r1038.2).bind fun r1044 => (if r1044.1 = r1032.1 then (if r1032.1 = 0 then (if r1038.1 = 0 then B_LW_law_1072 L xs (B_LW_law_23 L xs f_) l4 0 (r1044.2.2.2.2 424 0) r1044.2 else B_LW_law_1072 L xs (B_LW_law_23 L xs f_) l4 1 (r1044.2.2.2.2 424 0) r1044.2) else B_LW_law_1078 L xs (B_LW_law_23 L xs f_) l4 r1044.2) else some (0, r1044.2))))) else B_LW_law_1081 L xs (B_LW_law_23 L xs f_) l4 m)))))))))))))))) else none))
theorem b_LW_law_23 {G : x_G} {r : Int32 × x_m} {L : Nat} {xs : Nat → Int32} (hX : va_X G.2.2.2.1.2 L xs (x_s0 G) (x_s0 G).heap) (hC : x_C G 39 = G.2.2.2.1.2) : ∀ (f_ cz sz : Nat) (l4 : Int32) (m : x_m), cz + 2 * f_ ≤ 601024 → sz + 12 * f_ ≤ 7293034 → B_LW_law_23 L xs f_ l4 m = some r → x_W G M_LW_law room_1 (x_Q G room_1 false (x_pi r)) false x_np (x_hp m) cz sz [(0, .ref (x_N + 39)), (1, .ref 0), (2, .ref 387), (3, .ref 424), (4, .int l4)] [] 23 := by
  intro f_
  induction f_ with
  | zero => intro cz sz l4 m _ _ h; exact nomatch h
  | succ f_ ih =>
    intro cz sz l4 m hc0 hs0 h
    have hcz : cz + 2 ≤ 601024 := by omega
    have hsz : sz + 12 ≤ 7293034 := by omega
    have hK23 := fun (l4 : Int32) (m : x_m) (h : B_LW_law_23 L xs f_ l4 m = some r) => ih (cz + 2) (sz + 12) l4 m (by omega) (by omega) h
    rw [B_LW_law_23] at h
    refine x_iload d_LW_law_23 rfl ?_
    refine x_aload_n d_LW_law_25 rfl rfl ?_
    refine x_alenS hX hC d_LW_law_26 ?_
    refine x_bipush (v := 6) d_LW_law_27 (by decide) ?_
    refine x_isub d_LW_law_29 ?_
    refine x_icmp_gt (tgt := 1087) d_LW_law_30 (by decide) (fun c_ => ?_) (fun c_ => ?_)
    · replace h := x_it h c_
      refine x_iconst (v := 1) d_LW_law_1087 (by decide) ?_
      cases h
      exact x_wi d_LW_law_1088 rfl rfl (by show _ ≤ 601024; omega) (by show _ ≤ 7293034; omega)
    · replace h := x_ie h c_
      refine x_aload_n d_LW_law_33 rfl rfl ?_
      refine x_iload d_LW_law_34 rfl ?_
      obtain ⟨g_36, h⟩ := x_gd h
      refine x_ldS hX hC d_LW_law_36 g_36 ?_
      refine x_bipush (v := 15) d_LW_law_37 (by decide) ?_
      refine x_iand d_LW_law_39 ?_
      by_cases c0_ : ((xs l4.toNatClampNeg) &&& 15) = 0
      · replace h := x_it h c0_
        refine x_tsI (tgt := 120) d_LW_law_40 c0_ (by decide) (by decide) rfl (by decide) ?_
        refine x_aload_n d_LW_law_120 rfl rfl ?_
        refine x_aload_n d_LW_law_121 rfl rfl ?_
        refine x_iload d_LW_law_122 rfl ?_
        refine x_iconst (v := 1) d_LW_law_124 (by decide) ?_
        refine x_iadd d_LW_law_125 ?_
        obtain ⟨g_126, h⟩ := x_gd h
        refine x_ldS hX hC d_LW_law_126 g_126 ?_
        refine x_aload_n d_LW_law_127 rfl rfl ?_
        refine x_iload d_LW_law_128 rfl ?_
        refine x_iconst (v := 2) d_LW_law_130 (by decide) ?_
        refine x_iadd d_LW_law_131 ?_
        obtain ⟨g_132, h⟩ := x_gd h
        refine x_ldS hX hC d_LW_law_132 g_132 ?_
        refine x_aload_n d_LW_law_133 rfl rfl ?_
        refine x_iload d_LW_law_134 rfl ?_
        refine x_iconst (v := 3) d_LW_law_136 (by decide) ?_
        refine x_iadd d_LW_law_137 ?_
        obtain ⟨g_138, h⟩ := x_gd h
        refine x_ldS hX hC d_LW_law_138 g_138 ?_
        refine x_aload_n d_LW_law_139 rfl rfl ?_
        refine x_iload d_LW_law_140 rfl ?_
        refine x_iconst (v := 4) d_LW_law_142 (by decide) ?_
        refine x_iadd d_LW_law_143 ?_
        obtain ⟨g_144, h⟩ := x_gd h
        refine x_ldS hX hC d_LW_law_144 g_144 ?_
        refine x_aload_n d_LW_law_145 rfl rfl ?_
        refine x_iload d_LW_law_146 rfl ?_
        refine x_iconst (v := 5) d_LW_law_148 (by decide) ?_
        refine x_iadd d_LW_law_149 ?_
        obtain ⟨g_150, h⟩ := x_gd h
        refine x_ldS hX hC d_LW_law_150 g_150 ?_
        refine x_aload_n d_LW_law_151 rfl rfl ?_
        obtain ⟨r152, e152, h⟩ := x_bd h
        refine x_fSi (M2 := M_LW_feed) (As := [.ref 0, .int (xs (l4 + 1).toNatClampNeg), .int (xs (l4 + 2).toNatClampNeg), .int (xs (l4 + 3).toNatClampNeg), .int (xs (l4 + 4).toNatClampNeg), .int (xs (l4 + 5).toNatClampNeg), .ref 424]) (st := []) d_LW_law_152 w_794 k_LW_feed (c_LW_feed e152) rfl ⟨Nat.le_of_ble_eq_true rfl, Nat.le_of_ble_eq_true rfl⟩ (Nat.le_of_ble_eq_true rfl) (Nat.le_of_ble_eq_true rfl) (by show _ ≤ 601024; omega) (by show _ ≤ 7293034; omega) rfl ?_
        refine x_wide (c1 := cz + 2) (s1 := sz + 12) (by first | omega | (show _ + (_ : Nat) ≤ _; omega)) (by first | omega | (show _ + (_ : Nat) ≤ _; omega)) ?_
        refine x_istore (lv2 := [(0, .ref (x_N + 39)), (1, .ref 0), (2, .ref 387), (3, .ref 424), (4, .int l4), (5, .int r152.1)]) d_LW_law_155 (by decide) rfl ?_
        refine x_aload_n d_LW_law_157 rfl rfl ?_
        refine x_aload_n d_LW_law_158 rfl rfl ?_
        refine x_iload d_LW_law_159 rfl ?_
        refine x_iconst (v := 1) d_LW_law_161 (by decide) ?_
        refine x_iadd d_LW_law_162 ?_
        obtain ⟨g_163, h⟩ := x_gd h
        refine x_ldS hX hC d_LW_law_163 g_163 ?_
        refine x_aload_n d_LW_law_164 rfl rfl ?_
        refine x_iload d_LW_law_165 rfl ?_
        refine x_iconst (v := 2) d_LW_law_167 (by decide) ?_
        refine x_iadd d_LW_law_168 ?_
        obtain ⟨g_169, h⟩ := x_gd h
        refine x_ldS hX hC d_LW_law_169 g_169 ?_
        refine x_aload_n d_LW_law_170 rfl rfl ?_
        refine x_iload d_LW_law_171 rfl ?_
        refine x_iconst (v := 3) d_LW_law_173 (by decide) ?_
        refine x_iadd d_LW_law_174 ?_
        obtain ⟨g_175, h⟩ := x_gd h
        refine x_ldS hX hC d_LW_law_175 g_175 ?_
        refine x_aload_n d_LW_law_176 rfl rfl ?_
        refine x_iload d_LW_law_177 rfl ?_
        refine x_iconst (v := 4) d_LW_law_179 (by decide) ?_
        refine x_iadd d_LW_law_180 ?_
        obtain ⟨g_181, h⟩ := x_gd h
        refine x_ldS hX hC d_LW_law_181 g_181 ?_
        refine x_aload_n d_LW_law_182 rfl rfl ?_
        refine x_iload d_LW_law_183 rfl ?_
        refine x_iconst (v := 5) d_LW_law_185 (by decide) ?_
        refine x_iadd d_LW_law_186 ?_
        obtain ⟨g_187, h⟩ := x_gd h
        refine x_ldS hX hC d_LW_law_187 g_187 ?_
        obtain ⟨r188, e188, h⟩ := x_bd h
        refine x_dVi (M2 := M_MD_feed) (As := [.int (xs (l4 + 1).toNatClampNeg), .int (xs (l4 + 2).toNatClampNeg), .int (xs (l4 + 3).toNatClampNeg), .int (xs (l4 + 4).toNatClampNeg), .int (xs (l4 + 5).toNatClampNeg)]) (st := []) d_LW_law_188 w_1224 k_MD_feed (c_MD_feed e188) rfl sh_MD hp_MD rfl ⟨Nat.le_of_ble_eq_true rfl, Nat.le_of_ble_eq_true rfl⟩ (Nat.le_of_ble_eq_true rfl) (Nat.le_of_ble_eq_true rfl) (by show _ ≤ 601024; omega) (by show _ ≤ 7293034; omega) rfl ?_
        refine x_istore (lv2 := [(0, .ref (x_N + 39)), (1, .ref 0), (2, .ref 387), (3, .ref 424), (4, .int l4), (5, .int r152.1), (6, .int r188.1)]) d_LW_law_191 (by decide) rfl ?_
        refine x_aload_n d_LW_law_193 rfl rfl ?_
        obtain ⟨r194, e194, h⟩ := x_bd h
        refine x_dVi (M2 := M_MD_thrown) (As := []) (st := []) d_LW_law_194 w_1220 k_MD_thrown (c_MD_thrown e194) rfl sh_MD hp_MD rfl ⟨Nat.le_of_ble_eq_true rfl, Nat.le_of_ble_eq_true rfl⟩ (Nat.le_of_ble_eq_true rfl) (Nat.le_of_ble_eq_true rfl) (by show _ ≤ 601024; omega) (by show _ ≤ 7293034; omega) rfl ?_
        refine x_iload d_LW_law_197 rfl ?_
        refine x_icmp_eq (tgt := 204) d_LW_law_199 (by decide) (fun c_ => ?_) (fun c_ => ?_)
        · replace h := x_it h c_
          refine x_iload d_LW_law_204 rfl ?_
          refine x_if_ne (tgt := 221) d_LW_law_206 (by decide) (fun c_ => ?_) (fun c_ => ?_)
          · replace h := x_ie h c_
            refine x_sbk [0, 1, 2, 3, 4] (lv2 := [(0, .ref (x_N + 39)), (1, .ref 0), (2, .ref 387), (3, .ref 424), (4, .int l4)]) rfl ?_; first | exact b_LW_law_221 hX hC hcz hsz hK23 h | (refine x_wide (c1 := cz + 2) (s1 := sz + 12) (by omega) (by omega) ?_; exact b_LW_law_221 hX hC hcz hsz hK23 h)
          · replace h := x_it h c_
            refine x_aload_n d_LW_law_209 rfl rfl ?_
            refine x_iconst (v := 0) d_LW_law_210 (by decide) ?_
            refine x_lL d_LW_law_211 rfl sa_OUT ha_OUT rfl ?_
            refine x_iload d_LW_law_212 rfl ?_
            refine x_i2l d_LW_law_214 ?_
            refine x_lcmp d_LW_law_215 ?_
            refine x_if_eq (tgt := 221) d_LW_law_216 (by decide) (fun c_ => ?_) (fun c_ => ?_)
            · replace h := x_it h c_
              refine x_sbk [0, 1, 2, 3, 4] (lv2 := [(0, .ref (x_N + 39)), (1, .ref 0), (2, .ref 387), (3, .ref 424), (4, .int l4)]) rfl ?_; first | exact b_LW_law_221 hX hC hcz hsz hK23 h | (refine x_wide (c1 := cz + 2) (s1 := sz + 12) (by omega) (by omega) ?_; exact b_LW_law_221 hX hC hcz hsz hK23 h)
            · replace h := x_ie h c_
              refine x_iconst (v := 0) d_LW_law_219 (by decide) ?_
              cases h
              exact x_wi d_LW_law_220 rfl rfl (by show _ ≤ 601024; omega) (by show _ ≤ 7293034; omega)
        · replace h := x_ie h c_
          refine x_iconst (v := 0) d_LW_law_202 (by decide) ?_
          cases h
          exact x_wi d_LW_law_203 rfl rfl (by show _ ≤ 601024; omega) (by show _ ≤ 7293034; omega)
      · replace h := x_ie h c0_
        by_cases c1_ : ((xs l4.toNatClampNeg) &&& 15) = 1
        · replace h := x_it h c1_
          refine x_tsI (tgt := 224) d_LW_law_40 c1_ (by decide) (by decide) rfl (by decide) ?_
          refine x_aload_n d_LW_law_224 rfl rfl ?_
          refine x_aload_n d_LW_law_225 rfl rfl ?_
          refine x_iload d_LW_law_226 rfl ?_
          refine x_iconst (v := 1) d_LW_law_228 (by decide) ?_
          refine x_iadd d_LW_law_229 ?_
          obtain ⟨g_230, h⟩ := x_gd h
          refine x_ldS hX hC d_LW_law_230 g_230 ?_
          refine x_aload_n d_LW_law_231 rfl rfl ?_
          obtain ⟨r232, e232, h⟩ := x_bd h
          refine x_fSi (M2 := M_LW_trim) (As := [.ref 0, .int (xs (l4 + 1).toNatClampNeg), .ref 424]) (st := []) d_LW_law_232 w_873 k_LW_trim (c_LW_trim e232) rfl ⟨Nat.le_of_ble_eq_true rfl, Nat.le_of_ble_eq_true rfl⟩ (Nat.le_of_ble_eq_true rfl) (Nat.le_of_ble_eq_true rfl) (by show _ ≤ 601024; omega) (by show _ ≤ 7293034; omega) rfl ?_
          refine x_wide (c1 := cz + 2) (s1 := sz + 12) (by first | omega | (show _ + (_ : Nat) ≤ _; omega)) (by first | omega | (show _ + (_ : Nat) ≤ _; omega)) ?_
          refine x_istore (lv2 := [(0, .ref (x_N + 39)), (1, .ref 0), (2, .ref 387), (3, .ref 424), (4, .int l4), (5, .int r232.1)]) d_LW_law_235 (by decide) rfl ?_
          refine x_aload_n d_LW_law_237 rfl rfl ?_
          refine x_aload_n d_LW_law_238 rfl rfl ?_
          refine x_iload d_LW_law_239 rfl ?_
          refine x_iconst (v := 1) d_LW_law_241 (by decide) ?_
          refine x_iadd d_LW_law_242 ?_
          obtain ⟨g_243, h⟩ := x_gd h
          refine x_ldS hX hC d_LW_law_243 g_243 ?_
          obtain ⟨r244, e244, h⟩ := x_bd h
          refine x_dVi (M2 := M_MD_trim) (As := [.int (xs (l4 + 1).toNatClampNeg)]) (st := []) d_LW_law_244 w_1232 k_MD_trim (c_MD_trim e244) rfl sh_MD hp_MD rfl ⟨Nat.le_of_ble_eq_true rfl, Nat.le_of_ble_eq_true rfl⟩ (Nat.le_of_ble_eq_true rfl) (Nat.le_of_ble_eq_true rfl) (by show _ ≤ 601024; omega) (by show _ ≤ 7293034; omega) rfl ?_
          refine x_istore (lv2 := [(0, .ref (x_N + 39)), (1, .ref 0), (2, .ref 387), (3, .ref 424), (4, .int l4), (5, .int r232.1), (6, .int r244.1)]) d_LW_law_247 (by decide) rfl ?_
          refine x_aload_n d_LW_law_249 rfl rfl ?_
          obtain ⟨r250, e250, h⟩ := x_bd h
          refine x_dVi (M2 := M_MD_thrown) (As := []) (st := []) d_LW_law_250 w_1220 k_MD_thrown (c_MD_thrown e250) rfl sh_MD hp_MD rfl ⟨Nat.le_of_ble_eq_true rfl, Nat.le_of_ble_eq_true rfl⟩ (Nat.le_of_ble_eq_true rfl) (Nat.le_of_ble_eq_true rfl) (by show _ ≤ 601024; omega) (by show _ ≤ 7293034; omega) rfl ?_
          refine x_iload d_LW_law_253 rfl ?_
          refine x_icmp_eq (tgt := 260) d_LW_law_255 (by decide) (fun c_ => ?_) (fun c_ => ?_)
          · replace h := x_it h c_
            refine x_iload d_LW_law_260 rfl ?_
            refine x_if_ne (tgt := 277) d_LW_law_262 (by decide) (fun c_ => ?_) (fun c_ => ?_)
            · replace h := x_ie h c_
              refine x_sbk [0, 1, 2, 3, 4] (lv2 := [(0, .ref (x_N + 39)), (1, .ref 0), (2, .ref 387), (3, .ref 424), (4, .int l4)]) rfl ?_; first | exact b_LW_law_277 hX hC hcz hsz hK23 h | (refine x_wide (c1 := cz + 2) (s1 := sz + 12) (by omega) (by omega) ?_; exact b_LW_law_277 hX hC hcz hsz hK23 h)
            · replace h := x_it h c_
              refine x_aload_n d_LW_law_265 rfl rfl ?_
              refine x_iconst (v := 0) d_LW_law_266 (by decide) ?_
              refine x_lL d_LW_law_267 rfl sa_OUT ha_OUT rfl ?_
              refine x_iload d_LW_law_268 rfl ?_
              refine x_i2l d_LW_law_270 ?_
              refine x_lcmp d_LW_law_271 ?_
              refine x_if_eq (tgt := 277) d_LW_law_272 (by decide) (fun c_ => ?_) (fun c_ => ?_)
              · replace h := x_it h c_
                refine x_sbk [0, 1, 2, 3, 4] (lv2 := [(0, .ref (x_N + 39)), (1, .ref 0), (2, .ref 387), (3, .ref 424), (4, .int l4)]) rfl ?_; first | exact b_LW_law_277 hX hC hcz hsz hK23 h | (refine x_wide (c1 := cz + 2) (s1 := sz + 12) (by omega) (by omega) ?_; exact b_LW_law_277 hX hC hcz hsz hK23 h)
              · replace h := x_ie h c_
                refine x_iconst (v := 0) d_LW_law_275 (by decide) ?_
                cases h
                exact x_wi d_LW_law_276 rfl rfl (by show _ ≤ 601024; omega) (by show _ ≤ 7293034; omega)
          · replace h := x_ie h c_
            refine x_iconst (v := 0) d_LW_law_258 (by decide) ?_
            cases h
            exact x_wi d_LW_law_259 rfl rfl (by show _ ≤ 601024; omega) (by show _ ≤ 7293034; omega)
        · replace h := x_ie h c1_
          by_cases c2_ : ((xs l4.toNatClampNeg) &&& 15) = 2
          · replace h := x_it h c2_
            refine x_tsI (tgt := 280) d_LW_law_40 c2_ (by decide) (by decide) rfl (by decide) ?_
            refine x_aload_n d_LW_law_280 rfl rfl ?_
            obtain ⟨r281, e281, h⟩ := x_bd h
            refine x_dVi (M2 := M_QR_run) (As := []) (st := []) d_LW_law_281 w_366 k_QR_run (c_QR_run e281) rfl sh_QR hp_QR rfl ⟨Nat.le_of_ble_eq_true rfl, Nat.le_of_ble_eq_true rfl⟩ (Nat.le_of_ble_eq_true rfl) (Nat.le_of_ble_eq_true rfl) (by show _ ≤ 601024; omega) (by show _ ≤ 7293034; omega) rfl ?_
            refine x_wide (c1 := cz + 2) (s1 := sz + 12) (by first | omega | (show _ + (_ : Nat) ≤ _; omega)) (by first | omega | (show _ + (_ : Nat) ≤ _; omega)) ?_
            refine x_aload_n d_LW_law_284 rfl rfl ?_
            obtain ⟨r285, e285, h⟩ := x_bd h
            refine x_dVi (M2 := M_MD_run) (As := []) (st := [.int r281.1]) d_LW_law_285 w_1236 k_MD_run (c_MD_run e285) rfl sh_MD hp_MD rfl ⟨Nat.le_of_ble_eq_true rfl, Nat.le_of_ble_eq_true rfl⟩ (Nat.le_of_ble_eq_true rfl) (Nat.le_of_ble_eq_true rfl) (by show _ ≤ 601024; omega) (by show _ ≤ 7293034; omega) rfl ?_
            refine x_icmp_eq (tgt := 1081) d_LW_law_288 (by decide) (fun c_ => ?_) (fun c_ => ?_)
            · replace h := x_it h c_
              first | exact b_LW_law_1081 hX hC hcz hsz hK23 h | (refine x_wide (c1 := cz + 2) (s1 := sz + 12) (by omega) (by omega) ?_; exact b_LW_law_1081 hX hC hcz hsz hK23 h)
            · replace h := x_ie h c_
              refine x_iconst (v := 0) d_LW_law_291 (by decide) ?_
              cases h
              exact x_wi d_LW_law_292 rfl rfl (by show _ ≤ 601024; omega) (by show _ ≤ 7293034; omega)
          · replace h := x_ie h c2_
            by_cases c3_ : ((xs l4.toNatClampNeg) &&& 15) = 3
            · replace h := x_it h c3_
              refine x_tsI (tgt := 293) d_LW_law_40 c3_ (by decide) (by decide) rfl (by decide) ?_
              refine x_aload_n d_LW_law_293 rfl rfl ?_
              refine x_aload_n d_LW_law_294 rfl rfl ?_
              refine x_iload d_LW_law_295 rfl ?_
              refine x_iconst (v := 1) d_LW_law_297 (by decide) ?_
              refine x_iadd d_LW_law_298 ?_
              obtain ⟨g_299, h⟩ := x_gd h
              refine x_ldS hX hC d_LW_law_299 g_299 ?_
              refine x_aload_n d_LW_law_300 rfl rfl ?_
              obtain ⟨r301, e301, h⟩ := x_bd h
              refine x_fSi (M2 := M_LW_fault) (As := [.ref 0, .int (xs (l4 + 1).toNatClampNeg), .ref 424]) (st := []) d_LW_law_301 w_900 k_LW_fault (c_LW_fault e301) rfl ⟨Nat.le_of_ble_eq_true rfl, Nat.le_of_ble_eq_true rfl⟩ (Nat.le_of_ble_eq_true rfl) (Nat.le_of_ble_eq_true rfl) (by show _ ≤ 601024; omega) (by show _ ≤ 7293034; omega) rfl ?_
              refine x_wide (c1 := cz + 2) (s1 := sz + 12) (by first | omega | (show _ + (_ : Nat) ≤ _; omega)) (by first | omega | (show _ + (_ : Nat) ≤ _; omega)) ?_
              refine x_istore (lv2 := [(0, .ref (x_N + 39)), (1, .ref 0), (2, .ref 387), (3, .ref 424), (4, .int l4), (5, .int r301.1)]) d_LW_law_304 (by decide) rfl ?_
              refine x_aload_n d_LW_law_306 rfl rfl ?_
              refine x_aload_n d_LW_law_307 rfl rfl ?_
              refine x_iload d_LW_law_308 rfl ?_
              refine x_iconst (v := 1) d_LW_law_310 (by decide) ?_
              refine x_iadd d_LW_law_311 ?_
              obtain ⟨g_312, h⟩ := x_gd h
              refine x_ldS hX hC d_LW_law_312 g_312 ?_
              obtain ⟨r313, e313, h⟩ := x_bd h
              refine x_dVi (M2 := M_MD_fault) (As := [.int (xs (l4 + 1).toNatClampNeg)]) (st := []) d_LW_law_313 w_1439 k_MD_fault (c_MD_fault e313) rfl sh_MD hp_MD rfl ⟨Nat.le_of_ble_eq_true rfl, Nat.le_of_ble_eq_true rfl⟩ (Nat.le_of_ble_eq_true rfl) (Nat.le_of_ble_eq_true rfl) (by show _ ≤ 601024; omega) (by show _ ≤ 7293034; omega) rfl ?_
              refine x_istore (lv2 := [(0, .ref (x_N + 39)), (1, .ref 0), (2, .ref 387), (3, .ref 424), (4, .int l4), (5, .int r301.1), (6, .int r313.1)]) d_LW_law_316 (by decide) rfl ?_
              refine x_aload_n d_LW_law_318 rfl rfl ?_
              obtain ⟨r319, e319, h⟩ := x_bd h
              refine x_dVi (M2 := M_MD_thrown) (As := []) (st := []) d_LW_law_319 w_1220 k_MD_thrown (c_MD_thrown e319) rfl sh_MD hp_MD rfl ⟨Nat.le_of_ble_eq_true rfl, Nat.le_of_ble_eq_true rfl⟩ (Nat.le_of_ble_eq_true rfl) (Nat.le_of_ble_eq_true rfl) (by show _ ≤ 601024; omega) (by show _ ≤ 7293034; omega) rfl ?_
              refine x_iload d_LW_law_322 rfl ?_
              refine x_icmp_eq (tgt := 329) d_LW_law_324 (by decide) (fun c_ => ?_) (fun c_ => ?_)
              · replace h := x_it h c_
                refine x_iload d_LW_law_329 rfl ?_
                refine x_if_ne (tgt := 346) d_LW_law_331 (by decide) (fun c_ => ?_) (fun c_ => ?_)
                · replace h := x_ie h c_
                  refine x_sbk [0, 1, 2, 3, 4] (lv2 := [(0, .ref (x_N + 39)), (1, .ref 0), (2, .ref 387), (3, .ref 424), (4, .int l4)]) rfl ?_; first | exact b_LW_law_346 hX hC hcz hsz hK23 h | (refine x_wide (c1 := cz + 2) (s1 := sz + 12) (by omega) (by omega) ?_; exact b_LW_law_346 hX hC hcz hsz hK23 h)
                · replace h := x_it h c_
                  refine x_aload_n d_LW_law_334 rfl rfl ?_
                  refine x_iconst (v := 0) d_LW_law_335 (by decide) ?_
                  refine x_lL d_LW_law_336 rfl sa_OUT ha_OUT rfl ?_
                  refine x_iload d_LW_law_337 rfl ?_
                  refine x_i2l d_LW_law_339 ?_
                  refine x_lcmp d_LW_law_340 ?_
                  refine x_if_eq (tgt := 346) d_LW_law_341 (by decide) (fun c_ => ?_) (fun c_ => ?_)
                  · replace h := x_it h c_
                    refine x_sbk [0, 1, 2, 3, 4] (lv2 := [(0, .ref (x_N + 39)), (1, .ref 0), (2, .ref 387), (3, .ref 424), (4, .int l4)]) rfl ?_; first | exact b_LW_law_346 hX hC hcz hsz hK23 h | (refine x_wide (c1 := cz + 2) (s1 := sz + 12) (by omega) (by omega) ?_; exact b_LW_law_346 hX hC hcz hsz hK23 h)
                  · replace h := x_ie h c_
                    refine x_iconst (v := 0) d_LW_law_344 (by decide) ?_
                    cases h
                    exact x_wi d_LW_law_345 rfl rfl (by show _ ≤ 601024; omega) (by show _ ≤ 7293034; omega)
              · replace h := x_ie h c_
                refine x_iconst (v := 0) d_LW_law_327 (by decide) ?_
                cases h
                exact x_wi d_LW_law_328 rfl rfl (by show _ ≤ 601024; omega) (by show _ ≤ 7293034; omega)
            · replace h := x_ie h c3_
              by_cases c4_ : ((xs l4.toNatClampNeg) &&& 15) = 4
              · replace h := x_it h c4_
                refine x_tsI (tgt := 349) d_LW_law_40 c4_ (by decide) (by decide) rfl (by decide) ?_
                refine x_aload_n d_LW_law_349 rfl rfl ?_
                obtain ⟨r350, e350, h⟩ := x_bd h
                refine x_dVi (M2 := M_QR_open) (As := []) (st := []) d_LW_law_350 w_773 k_QR_open (c_QR_open e350) rfl sh_QR hp_QR rfl ⟨Nat.le_of_ble_eq_true rfl, Nat.le_of_ble_eq_true rfl⟩ (Nat.le_of_ble_eq_true rfl) (Nat.le_of_ble_eq_true rfl) (by show _ ≤ 601024; omega) (by show _ ≤ 7293034; omega) rfl ?_
                refine x_wide (c1 := cz + 2) (s1 := sz + 12) (by first | omega | (show _ + (_ : Nat) ≤ _; omega)) (by first | omega | (show _ + (_ : Nat) ≤ _; omega)) ?_
                refine x_aload_n d_LW_law_353 rfl rfl ?_
                obtain ⟨r354, e354, h⟩ := x_bd h
                refine x_dVi (M2 := M_MD_open) (As := []) (st := [.int r350.1]) d_LW_law_354 w_1443 k_MD_open (c_MD_open e354) rfl sh_MD hp_MD rfl ⟨Nat.le_of_ble_eq_true rfl, Nat.le_of_ble_eq_true rfl⟩ (Nat.le_of_ble_eq_true rfl) (Nat.le_of_ble_eq_true rfl) (by show _ ≤ 601024; omega) (by show _ ≤ 7293034; omega) rfl ?_
                refine x_icmp_eq (tgt := 1081) d_LW_law_357 (by decide) (fun c_ => ?_) (fun c_ => ?_)
                · replace h := x_it h c_
                  first | exact b_LW_law_1081 hX hC hcz hsz hK23 h | (refine x_wide (c1 := cz + 2) (s1 := sz + 12) (by omega) (by omega) ?_; exact b_LW_law_1081 hX hC hcz hsz hK23 h)
                · replace h := x_ie h c_
                  refine x_iconst (v := 0) d_LW_law_360 (by decide) ?_
                  cases h
                  exact x_wi d_LW_law_361 rfl rfl (by show _ ≤ 601024; omega) (by show _ ≤ 7293034; omega)
              · replace h := x_ie h c4_
                by_cases c5_ : ((xs l4.toNatClampNeg) &&& 15) = 5
                · replace h := x_it h c5_
                  refine x_tsI (tgt := 362) d_LW_law_40 c5_ (by decide) (by decide) rfl (by decide) ?_
                  refine x_aload_n d_LW_law_362 rfl rfl ?_
                  refine x_aload_n d_LW_law_363 rfl rfl ?_
                  refine x_iload d_LW_law_364 rfl ?_
                  refine x_iconst (v := 1) d_LW_law_366 (by decide) ?_
                  refine x_iadd d_LW_law_367 ?_
                  obtain ⟨g_368, h⟩ := x_gd h
                  refine x_ldS hX hC d_LW_law_368 g_368 ?_
                  refine x_aload_n d_LW_law_369 rfl rfl ?_
                  obtain ⟨r370, e370, h⟩ := x_bd h
                  refine x_fSi (M2 := M_LW_count) (As := [.ref 0, .int (xs (l4 + 1).toNatClampNeg), .ref 424]) (st := []) d_LW_law_370 w_907 k_LW_count (c_LW_count e370) rfl ⟨Nat.le_of_ble_eq_true rfl, Nat.le_of_ble_eq_true rfl⟩ (Nat.le_of_ble_eq_true rfl) (Nat.le_of_ble_eq_true rfl) (by show _ ≤ 601024; omega) (by show _ ≤ 7293034; omega) rfl ?_
                  refine x_wide (c1 := cz + 2) (s1 := sz + 12) (by first | omega | (show _ + (_ : Nat) ≤ _; omega)) (by first | omega | (show _ + (_ : Nat) ≤ _; omega)) ?_
                  refine x_istore (lv2 := [(0, .ref (x_N + 39)), (1, .ref 0), (2, .ref 387), (3, .ref 424), (4, .int l4), (5, .int r370.1)]) d_LW_law_373 (by decide) rfl ?_
                  refine x_aload_n d_LW_law_375 rfl rfl ?_
                  refine x_aload_n d_LW_law_376 rfl rfl ?_
                  refine x_iload d_LW_law_377 rfl ?_
                  refine x_iconst (v := 1) d_LW_law_379 (by decide) ?_
                  refine x_iadd d_LW_law_380 ?_
                  obtain ⟨g_381, h⟩ := x_gd h
                  refine x_ldS hX hC d_LW_law_381 g_381 ?_
                  obtain ⟨r382, e382, h⟩ := x_bd h
                  refine x_dVi (M2 := M_MD_count) (As := [.int (xs (l4 + 1).toNatClampNeg)]) (st := []) d_LW_law_382 w_1451 k_MD_count (c_MD_count e382) rfl sh_MD hp_MD rfl ⟨Nat.le_of_ble_eq_true rfl, Nat.le_of_ble_eq_true rfl⟩ (Nat.le_of_ble_eq_true rfl) (Nat.le_of_ble_eq_true rfl) (by show _ ≤ 601024; omega) (by show _ ≤ 7293034; omega) rfl ?_
                  refine x_istore (lv2 := [(0, .ref (x_N + 39)), (1, .ref 0), (2, .ref 387), (3, .ref 424), (4, .int l4), (5, .int r370.1), (6, .int r382.1)]) d_LW_law_385 (by decide) rfl ?_
                  refine x_aload_n d_LW_law_387 rfl rfl ?_
                  obtain ⟨r388, e388, h⟩ := x_bd h
                  refine x_dVi (M2 := M_MD_thrown) (As := []) (st := []) d_LW_law_388 w_1220 k_MD_thrown (c_MD_thrown e388) rfl sh_MD hp_MD rfl ⟨Nat.le_of_ble_eq_true rfl, Nat.le_of_ble_eq_true rfl⟩ (Nat.le_of_ble_eq_true rfl) (Nat.le_of_ble_eq_true rfl) (by show _ ≤ 601024; omega) (by show _ ≤ 7293034; omega) rfl ?_
                  refine x_iload d_LW_law_391 rfl ?_
                  refine x_icmp_eq (tgt := 398) d_LW_law_393 (by decide) (fun c_ => ?_) (fun c_ => ?_)
                  · replace h := x_it h c_
                    refine x_iload d_LW_law_398 rfl ?_
                    refine x_if_ne (tgt := 415) d_LW_law_400 (by decide) (fun c_ => ?_) (fun c_ => ?_)
                    · replace h := x_ie h c_
                      refine x_sbk [0, 1, 2, 3, 4] (lv2 := [(0, .ref (x_N + 39)), (1, .ref 0), (2, .ref 387), (3, .ref 424), (4, .int l4)]) rfl ?_; first | exact b_LW_law_415 hX hC hcz hsz hK23 h | (refine x_wide (c1 := cz + 2) (s1 := sz + 12) (by omega) (by omega) ?_; exact b_LW_law_415 hX hC hcz hsz hK23 h)
                    · replace h := x_it h c_
                      refine x_aload_n d_LW_law_403 rfl rfl ?_
                      refine x_iconst (v := 0) d_LW_law_404 (by decide) ?_
                      refine x_lL d_LW_law_405 rfl sa_OUT ha_OUT rfl ?_
                      refine x_iload d_LW_law_406 rfl ?_
                      refine x_i2l d_LW_law_408 ?_
                      refine x_lcmp d_LW_law_409 ?_
                      refine x_if_eq (tgt := 415) d_LW_law_410 (by decide) (fun c_ => ?_) (fun c_ => ?_)
                      · replace h := x_it h c_
                        refine x_sbk [0, 1, 2, 3, 4] (lv2 := [(0, .ref (x_N + 39)), (1, .ref 0), (2, .ref 387), (3, .ref 424), (4, .int l4)]) rfl ?_; first | exact b_LW_law_415 hX hC hcz hsz hK23 h | (refine x_wide (c1 := cz + 2) (s1 := sz + 12) (by omega) (by omega) ?_; exact b_LW_law_415 hX hC hcz hsz hK23 h)
                      · replace h := x_ie h c_
                        refine x_iconst (v := 0) d_LW_law_413 (by decide) ?_
                        cases h
                        exact x_wi d_LW_law_414 rfl rfl (by show _ ≤ 601024; omega) (by show _ ≤ 7293034; omega)
                  · replace h := x_ie h c_
                    refine x_iconst (v := 0) d_LW_law_396 (by decide) ?_
                    cases h
                    exact x_wi d_LW_law_397 rfl rfl (by show _ ≤ 601024; omega) (by show _ ≤ 7293034; omega)
                · replace h := x_ie h c5_
                  by_cases c6_ : ((xs l4.toNatClampNeg) &&& 15) = 6
                  · replace h := x_it h c6_
                    refine x_tsI (tgt := 418) d_LW_law_40 c6_ (by decide) (by decide) rfl (by decide) ?_
                    refine x_aload_n d_LW_law_418 rfl rfl ?_
                    refine x_aload_n d_LW_law_419 rfl rfl ?_
                    refine x_iload d_LW_law_420 rfl ?_
                    refine x_iconst (v := 1) d_LW_law_422 (by decide) ?_
                    refine x_iadd d_LW_law_423 ?_
                    obtain ⟨g_424, h⟩ := x_gd h
                    refine x_ldS hX hC d_LW_law_424 g_424 ?_
                    refine x_aload_n d_LW_law_425 rfl rfl ?_
                    refine x_iload d_LW_law_426 rfl ?_
                    refine x_iconst (v := 2) d_LW_law_428 (by decide) ?_
                    refine x_iadd d_LW_law_429 ?_
                    obtain ⟨g_430, h⟩ := x_gd h
                    refine x_ldS hX hC d_LW_law_430 g_430 ?_
                    refine x_aload_n d_LW_law_431 rfl rfl ?_
                    obtain ⟨r432, e432, h⟩ := x_bd h
                    refine x_fSi (M2 := M_LW_dimension) (As := [.ref 0, .int (xs (l4 + 1).toNatClampNeg), .int (xs (l4 + 2).toNatClampNeg), .ref 424]) (st := []) d_LW_law_432 w_915 k_LW_dimension (c_LW_dimension e432) rfl ⟨Nat.le_of_ble_eq_true rfl, Nat.le_of_ble_eq_true rfl⟩ (Nat.le_of_ble_eq_true rfl) (Nat.le_of_ble_eq_true rfl) (by show _ ≤ 601024; omega) (by show _ ≤ 7293034; omega) rfl ?_
                    refine x_wide (c1 := cz + 2) (s1 := sz + 12) (by first | omega | (show _ + (_ : Nat) ≤ _; omega)) (by first | omega | (show _ + (_ : Nat) ≤ _; omega)) ?_
                    refine x_istore (lv2 := [(0, .ref (x_N + 39)), (1, .ref 0), (2, .ref 387), (3, .ref 424), (4, .int l4), (5, .int r432.1)]) d_LW_law_435 (by decide) rfl ?_
                    refine x_aload_n d_LW_law_437 rfl rfl ?_
                    refine x_aload_n d_LW_law_438 rfl rfl ?_
                    refine x_iload d_LW_law_439 rfl ?_
                    refine x_iconst (v := 1) d_LW_law_441 (by decide) ?_
                    refine x_iadd d_LW_law_442 ?_
                    obtain ⟨g_443, h⟩ := x_gd h
                    refine x_ldS hX hC d_LW_law_443 g_443 ?_
                    refine x_aload_n d_LW_law_444 rfl rfl ?_
                    refine x_iload d_LW_law_445 rfl ?_
                    refine x_iconst (v := 2) d_LW_law_447 (by decide) ?_
                    refine x_iadd d_LW_law_448 ?_
                    obtain ⟨g_449, h⟩ := x_gd h
                    refine x_ldS hX hC d_LW_law_449 g_449 ?_
                    obtain ⟨r450, e450, h⟩ := x_bd h
                    refine x_dVi (M2 := M_MD_dimension2) (As := [.int (xs (l4 + 1).toNatClampNeg), .int (xs (l4 + 2).toNatClampNeg)]) (st := []) d_LW_law_450 w_1455 k_MD_dimension2 (c_MD_dimension2 e450) rfl sh_MD hp_MD rfl ⟨Nat.le_of_ble_eq_true rfl, Nat.le_of_ble_eq_true rfl⟩ (Nat.le_of_ble_eq_true rfl) (Nat.le_of_ble_eq_true rfl) (by show _ ≤ 601024; omega) (by show _ ≤ 7293034; omega) rfl ?_
                    refine x_istore (lv2 := [(0, .ref (x_N + 39)), (1, .ref 0), (2, .ref 387), (3, .ref 424), (4, .int l4), (5, .int r432.1), (6, .int r450.1)]) d_LW_law_453 (by decide) rfl ?_
                    refine x_aload_n d_LW_law_455 rfl rfl ?_
                    obtain ⟨r456, e456, h⟩ := x_bd h
                    refine x_dVi (M2 := M_MD_thrown) (As := []) (st := []) d_LW_law_456 w_1220 k_MD_thrown (c_MD_thrown e456) rfl sh_MD hp_MD rfl ⟨Nat.le_of_ble_eq_true rfl, Nat.le_of_ble_eq_true rfl⟩ (Nat.le_of_ble_eq_true rfl) (Nat.le_of_ble_eq_true rfl) (by show _ ≤ 601024; omega) (by show _ ≤ 7293034; omega) rfl ?_
                    refine x_iload d_LW_law_459 rfl ?_
                    refine x_icmp_eq (tgt := 466) d_LW_law_461 (by decide) (fun c_ => ?_) (fun c_ => ?_)
                    · replace h := x_it h c_
                      refine x_iload d_LW_law_466 rfl ?_
                      refine x_if_ne (tgt := 483) d_LW_law_468 (by decide) (fun c_ => ?_) (fun c_ => ?_)
                      · replace h := x_ie h c_
                        refine x_sbk [0, 1, 2, 3, 4] (lv2 := [(0, .ref (x_N + 39)), (1, .ref 0), (2, .ref 387), (3, .ref 424), (4, .int l4)]) rfl ?_; first | exact b_LW_law_483 hX hC hcz hsz hK23 h | (refine x_wide (c1 := cz + 2) (s1 := sz + 12) (by omega) (by omega) ?_; exact b_LW_law_483 hX hC hcz hsz hK23 h)
                      · replace h := x_it h c_
                        refine x_aload_n d_LW_law_471 rfl rfl ?_
                        refine x_iconst (v := 0) d_LW_law_472 (by decide) ?_
                        refine x_lL d_LW_law_473 rfl sa_OUT ha_OUT rfl ?_
                        refine x_iload d_LW_law_474 rfl ?_
                        refine x_i2l d_LW_law_476 ?_
                        refine x_lcmp d_LW_law_477 ?_
                        refine x_if_eq (tgt := 483) d_LW_law_478 (by decide) (fun c_ => ?_) (fun c_ => ?_)
                        · replace h := x_it h c_
                          refine x_sbk [0, 1, 2, 3, 4] (lv2 := [(0, .ref (x_N + 39)), (1, .ref 0), (2, .ref 387), (3, .ref 424), (4, .int l4)]) rfl ?_; first | exact b_LW_law_483 hX hC hcz hsz hK23 h | (refine x_wide (c1 := cz + 2) (s1 := sz + 12) (by omega) (by omega) ?_; exact b_LW_law_483 hX hC hcz hsz hK23 h)
                        · replace h := x_ie h c_
                          refine x_iconst (v := 0) d_LW_law_481 (by decide) ?_
                          cases h
                          exact x_wi d_LW_law_482 rfl rfl (by show _ ≤ 601024; omega) (by show _ ≤ 7293034; omega)
                    · replace h := x_ie h c_
                      refine x_iconst (v := 0) d_LW_law_464 (by decide) ?_
                      cases h
                      exact x_wi d_LW_law_465 rfl rfl (by show _ ≤ 601024; omega) (by show _ ≤ 7293034; omega)
                  · replace h := x_ie h c6_
                    by_cases c7_ : ((xs l4.toNatClampNeg) &&& 15) = 7
                    · replace h := x_it h c7_
                      refine x_tsI (tgt := 486) d_LW_law_40 c7_ (by decide) (by decide) rfl (by decide) ?_
                      refine x_aload_n d_LW_law_486 rfl rfl ?_
                      refine x_aload_n d_LW_law_487 rfl rfl ?_
                      refine x_iload d_LW_law_488 rfl ?_
                      refine x_iconst (v := 1) d_LW_law_490 (by decide) ?_
                      refine x_iadd d_LW_law_491 ?_
                      obtain ⟨g_492, h⟩ := x_gd h
                      refine x_ldS hX hC d_LW_law_492 g_492 ?_
                      refine x_aload_n d_LW_law_493 rfl rfl ?_
                      refine x_iload d_LW_law_494 rfl ?_
                      refine x_iconst (v := 2) d_LW_law_496 (by decide) ?_
                      refine x_iadd d_LW_law_497 ?_
                      obtain ⟨g_498, h⟩ := x_gd h
                      refine x_ldS hX hC d_LW_law_498 g_498 ?_
                      refine x_aload_n d_LW_law_499 rfl rfl ?_
                      refine x_iload d_LW_law_500 rfl ?_
                      refine x_iconst (v := 3) d_LW_law_502 (by decide) ?_
                      refine x_iadd d_LW_law_503 ?_
                      obtain ⟨g_504, h⟩ := x_gd h
                      refine x_ldS hX hC d_LW_law_504 g_504 ?_
                      refine x_aload_n d_LW_law_505 rfl rfl ?_
                      obtain ⟨r506, e506, h⟩ := x_bd h
                      refine x_fSi (M2 := M_LW_value) (As := [.ref 0, .int (xs (l4 + 1).toNatClampNeg), .int (xs (l4 + 2).toNatClampNeg), .int (xs (l4 + 3).toNatClampNeg), .ref 424]) (st := []) d_LW_law_506 w_926 k_LW_value (c_LW_value e506) rfl ⟨Nat.le_of_ble_eq_true rfl, Nat.le_of_ble_eq_true rfl⟩ (Nat.le_of_ble_eq_true rfl) (Nat.le_of_ble_eq_true rfl) (by show _ ≤ 601024; omega) (by show _ ≤ 7293034; omega) rfl ?_
                      refine x_wide (c1 := cz + 2) (s1 := sz + 12) (by first | omega | (show _ + (_ : Nat) ≤ _; omega)) (by first | omega | (show _ + (_ : Nat) ≤ _; omega)) ?_
                      refine x_istore (lv2 := [(0, .ref (x_N + 39)), (1, .ref 0), (2, .ref 387), (3, .ref 424), (4, .int l4), (5, .int r506.1)]) d_LW_law_509 (by decide) rfl ?_
                      refine x_aload_n d_LW_law_511 rfl rfl ?_
                      refine x_aload_n d_LW_law_512 rfl rfl ?_
                      refine x_iload d_LW_law_513 rfl ?_
                      refine x_iconst (v := 1) d_LW_law_515 (by decide) ?_
                      refine x_iadd d_LW_law_516 ?_
                      obtain ⟨g_517, h⟩ := x_gd h
                      refine x_ldS hX hC d_LW_law_517 g_517 ?_
                      refine x_aload_n d_LW_law_518 rfl rfl ?_
                      refine x_iload d_LW_law_519 rfl ?_
                      refine x_iconst (v := 2) d_LW_law_521 (by decide) ?_
                      refine x_iadd d_LW_law_522 ?_
                      obtain ⟨g_523, h⟩ := x_gd h
                      refine x_ldS hX hC d_LW_law_523 g_523 ?_
                      refine x_aload_n d_LW_law_524 rfl rfl ?_
                      refine x_iload d_LW_law_525 rfl ?_
                      refine x_iconst (v := 3) d_LW_law_527 (by decide) ?_
                      refine x_iadd d_LW_law_528 ?_
                      obtain ⟨g_529, h⟩ := x_gd h
                      refine x_ldS hX hC d_LW_law_529 g_529 ?_
                      obtain ⟨r530, e530, h⟩ := x_bd h
                      refine x_dVi (M2 := M_MD_value) (As := [.int (xs (l4 + 1).toNatClampNeg), .int (xs (l4 + 2).toNatClampNeg), .int (xs (l4 + 3).toNatClampNeg)]) (st := []) d_LW_law_530 w_1463 k_MD_value (c_MD_value e530) rfl sh_MD hp_MD rfl ⟨Nat.le_of_ble_eq_true rfl, Nat.le_of_ble_eq_true rfl⟩ (Nat.le_of_ble_eq_true rfl) (Nat.le_of_ble_eq_true rfl) (by show _ ≤ 601024; omega) (by show _ ≤ 7293034; omega) rfl ?_
                      refine x_istore (lv2 := [(0, .ref (x_N + 39)), (1, .ref 0), (2, .ref 387), (3, .ref 424), (4, .int l4), (5, .int r506.1), (6, .int r530.1)]) d_LW_law_533 (by decide) rfl ?_
                      refine x_aload_n d_LW_law_535 rfl rfl ?_
                      obtain ⟨r536, e536, h⟩ := x_bd h
                      refine x_dVi (M2 := M_MD_thrown) (As := []) (st := []) d_LW_law_536 w_1220 k_MD_thrown (c_MD_thrown e536) rfl sh_MD hp_MD rfl ⟨Nat.le_of_ble_eq_true rfl, Nat.le_of_ble_eq_true rfl⟩ (Nat.le_of_ble_eq_true rfl) (Nat.le_of_ble_eq_true rfl) (by show _ ≤ 601024; omega) (by show _ ≤ 7293034; omega) rfl ?_
                      refine x_iload d_LW_law_539 rfl ?_
                      refine x_icmp_eq (tgt := 546) d_LW_law_541 (by decide) (fun c_ => ?_) (fun c_ => ?_)
                      · replace h := x_it h c_
                        refine x_iload d_LW_law_546 rfl ?_
                        refine x_if_ne (tgt := 563) d_LW_law_548 (by decide) (fun c_ => ?_) (fun c_ => ?_)
                        · replace h := x_ie h c_
                          refine x_sbk [0, 1, 2, 3, 4] (lv2 := [(0, .ref (x_N + 39)), (1, .ref 0), (2, .ref 387), (3, .ref 424), (4, .int l4)]) rfl ?_; first | exact b_LW_law_563 hX hC hcz hsz hK23 h | (refine x_wide (c1 := cz + 2) (s1 := sz + 12) (by omega) (by omega) ?_; exact b_LW_law_563 hX hC hcz hsz hK23 h)
                        · replace h := x_it h c_
                          refine x_aload_n d_LW_law_551 rfl rfl ?_
                          refine x_iconst (v := 0) d_LW_law_552 (by decide) ?_
                          refine x_lL d_LW_law_553 rfl sa_OUT ha_OUT rfl ?_
                          refine x_iload d_LW_law_554 rfl ?_
                          refine x_i2l d_LW_law_556 ?_
                          refine x_lcmp d_LW_law_557 ?_
                          refine x_if_eq (tgt := 563) d_LW_law_558 (by decide) (fun c_ => ?_) (fun c_ => ?_)
                          · replace h := x_it h c_
                            refine x_sbk [0, 1, 2, 3, 4] (lv2 := [(0, .ref (x_N + 39)), (1, .ref 0), (2, .ref 387), (3, .ref 424), (4, .int l4)]) rfl ?_; first | exact b_LW_law_563 hX hC hcz hsz hK23 h | (refine x_wide (c1 := cz + 2) (s1 := sz + 12) (by omega) (by omega) ?_; exact b_LW_law_563 hX hC hcz hsz hK23 h)
                          · replace h := x_ie h c_
                            refine x_iconst (v := 0) d_LW_law_561 (by decide) ?_
                            cases h
                            exact x_wi d_LW_law_562 rfl rfl (by show _ ≤ 601024; omega) (by show _ ≤ 7293034; omega)
                      · replace h := x_ie h c_
                        refine x_iconst (v := 0) d_LW_law_544 (by decide) ?_
                        cases h
                        exact x_wi d_LW_law_545 rfl rfl (by show _ ≤ 601024; omega) (by show _ ≤ 7293034; omega)
                    · replace h := x_ie h c7_
                      by_cases c8_ : ((xs l4.toNatClampNeg) &&& 15) = 8
                      · replace h := x_it h c8_
                        refine x_tsI (tgt := 566) d_LW_law_40 c8_ (by decide) (by decide) rfl (by decide) ?_
                        refine x_aload_n d_LW_law_566 rfl rfl ?_
                        refine x_aload_n d_LW_law_567 rfl rfl ?_
                        refine x_iload d_LW_law_568 rfl ?_
                        refine x_iconst (v := 1) d_LW_law_570 (by decide) ?_
                        refine x_iadd d_LW_law_571 ?_
                        obtain ⟨g_572, h⟩ := x_gd h
                        refine x_ldS hX hC d_LW_law_572 g_572 ?_
                        refine x_aload_n d_LW_law_573 rfl rfl ?_
                        refine x_iload d_LW_law_574 rfl ?_
                        refine x_iconst (v := 2) d_LW_law_576 (by decide) ?_
                        refine x_iadd d_LW_law_577 ?_
                        obtain ⟨g_578, h⟩ := x_gd h
                        refine x_ldS hX hC d_LW_law_578 g_578 ?_
                        refine x_aload_n d_LW_law_579 rfl rfl ?_
                        refine x_iload d_LW_law_580 rfl ?_
                        refine x_iconst (v := 3) d_LW_law_582 (by decide) ?_
                        refine x_iadd d_LW_law_583 ?_
                        obtain ⟨g_584, h⟩ := x_gd h
                        refine x_ldS hX hC d_LW_law_584 g_584 ?_
                        refine x_aload_n d_LW_law_585 rfl rfl ?_
                        obtain ⟨r586, e586, h⟩ := x_bd h
                        refine x_fSi (M2 := M_LW_rank) (As := [.ref 0, .int (xs (l4 + 1).toNatClampNeg), .int (xs (l4 + 2).toNatClampNeg), .int (xs (l4 + 3).toNatClampNeg), .ref 424]) (st := []) d_LW_law_586 w_946 k_LW_rank (c_LW_rank e586) rfl ⟨Nat.le_of_ble_eq_true rfl, Nat.le_of_ble_eq_true rfl⟩ (Nat.le_of_ble_eq_true rfl) (Nat.le_of_ble_eq_true rfl) (by show _ ≤ 601024; omega) (by show _ ≤ 7293034; omega) rfl ?_
                        refine x_wide (c1 := cz + 2) (s1 := sz + 12) (by first | omega | (show _ + (_ : Nat) ≤ _; omega)) (by first | omega | (show _ + (_ : Nat) ≤ _; omega)) ?_
                        refine x_istore (lv2 := [(0, .ref (x_N + 39)), (1, .ref 0), (2, .ref 387), (3, .ref 424), (4, .int l4), (5, .int r586.1)]) d_LW_law_589 (by decide) rfl ?_
                        refine x_aload_n d_LW_law_591 rfl rfl ?_
                        refine x_aload_n d_LW_law_592 rfl rfl ?_
                        refine x_iload d_LW_law_593 rfl ?_
                        refine x_iconst (v := 1) d_LW_law_595 (by decide) ?_
                        refine x_iadd d_LW_law_596 ?_
                        obtain ⟨g_597, h⟩ := x_gd h
                        refine x_ldS hX hC d_LW_law_597 g_597 ?_
                        refine x_aload_n d_LW_law_598 rfl rfl ?_
                        refine x_iload d_LW_law_599 rfl ?_
                        refine x_iconst (v := 2) d_LW_law_601 (by decide) ?_
                        refine x_iadd d_LW_law_602 ?_
                        obtain ⟨g_603, h⟩ := x_gd h
                        refine x_ldS hX hC d_LW_law_603 g_603 ?_
                        refine x_aload_n d_LW_law_604 rfl rfl ?_
                        refine x_iload d_LW_law_605 rfl ?_
                        refine x_iconst (v := 3) d_LW_law_607 (by decide) ?_
                        refine x_iadd d_LW_law_608 ?_
                        obtain ⟨g_609, h⟩ := x_gd h
                        refine x_ldS hX hC d_LW_law_609 g_609 ?_
                        obtain ⟨r610, e610, h⟩ := x_bd h
                        refine x_dVi (M2 := M_MD_rank) (As := [.int (xs (l4 + 1).toNatClampNeg), .int (xs (l4 + 2).toNatClampNeg), .int (xs (l4 + 3).toNatClampNeg)]) (st := []) d_LW_law_610 w_1475 k_MD_rank (c_MD_rank e610) rfl sh_MD hp_MD rfl ⟨Nat.le_of_ble_eq_true rfl, Nat.le_of_ble_eq_true rfl⟩ (Nat.le_of_ble_eq_true rfl) (Nat.le_of_ble_eq_true rfl) (by show _ ≤ 601024; omega) (by show _ ≤ 7293034; omega) rfl ?_
                        refine x_istore (lv2 := [(0, .ref (x_N + 39)), (1, .ref 0), (2, .ref 387), (3, .ref 424), (4, .int l4), (5, .int r586.1), (6, .int r610.1)]) d_LW_law_613 (by decide) rfl ?_
                        refine x_aload_n d_LW_law_615 rfl rfl ?_
                        obtain ⟨r616, e616, h⟩ := x_bd h
                        refine x_dVi (M2 := M_MD_thrown) (As := []) (st := []) d_LW_law_616 w_1220 k_MD_thrown (c_MD_thrown e616) rfl sh_MD hp_MD rfl ⟨Nat.le_of_ble_eq_true rfl, Nat.le_of_ble_eq_true rfl⟩ (Nat.le_of_ble_eq_true rfl) (Nat.le_of_ble_eq_true rfl) (by show _ ≤ 601024; omega) (by show _ ≤ 7293034; omega) rfl ?_
                        refine x_iload d_LW_law_619 rfl ?_
                        refine x_icmp_eq (tgt := 626) d_LW_law_621 (by decide) (fun c_ => ?_) (fun c_ => ?_)
                        · replace h := x_it h c_
                          refine x_iload d_LW_law_626 rfl ?_
                          refine x_if_ne (tgt := 643) d_LW_law_628 (by decide) (fun c_ => ?_) (fun c_ => ?_)
                          · replace h := x_ie h c_
                            refine x_sbk [0, 1, 2, 3, 4] (lv2 := [(0, .ref (x_N + 39)), (1, .ref 0), (2, .ref 387), (3, .ref 424), (4, .int l4)]) rfl ?_; first | exact b_LW_law_643 hX hC hcz hsz hK23 h | (refine x_wide (c1 := cz + 2) (s1 := sz + 12) (by omega) (by omega) ?_; exact b_LW_law_643 hX hC hcz hsz hK23 h)
                          · replace h := x_it h c_
                            refine x_aload_n d_LW_law_631 rfl rfl ?_
                            refine x_iconst (v := 0) d_LW_law_632 (by decide) ?_
                            refine x_lL d_LW_law_633 rfl sa_OUT ha_OUT rfl ?_
                            refine x_iload d_LW_law_634 rfl ?_
                            refine x_i2l d_LW_law_636 ?_
                            refine x_lcmp d_LW_law_637 ?_
                            refine x_if_eq (tgt := 643) d_LW_law_638 (by decide) (fun c_ => ?_) (fun c_ => ?_)
                            · replace h := x_it h c_
                              refine x_sbk [0, 1, 2, 3, 4] (lv2 := [(0, .ref (x_N + 39)), (1, .ref 0), (2, .ref 387), (3, .ref 424), (4, .int l4)]) rfl ?_; first | exact b_LW_law_643 hX hC hcz hsz hK23 h | (refine x_wide (c1 := cz + 2) (s1 := sz + 12) (by omega) (by omega) ?_; exact b_LW_law_643 hX hC hcz hsz hK23 h)
                            · replace h := x_ie h c_
                              refine x_iconst (v := 0) d_LW_law_641 (by decide) ?_
                              cases h
                              exact x_wi d_LW_law_642 rfl rfl (by show _ ≤ 601024; omega) (by show _ ≤ 7293034; omega)
                        · replace h := x_ie h c_
                          refine x_iconst (v := 0) d_LW_law_624 (by decide) ?_
                          cases h
                          exact x_wi d_LW_law_625 rfl rfl (by show _ ≤ 601024; omega) (by show _ ≤ 7293034; omega)
                      · replace h := x_ie h c8_
                        by_cases c9_ : ((xs l4.toNatClampNeg) &&& 15) = 9
                        · replace h := x_it h c9_
                          refine x_tsI (tgt := 646) d_LW_law_40 c9_ (by decide) (by decide) rfl (by decide) ?_
                          refine x_aload_n d_LW_law_646 rfl rfl ?_
                          refine x_aload_n d_LW_law_647 rfl rfl ?_
                          refine x_iload d_LW_law_648 rfl ?_
                          refine x_iconst (v := 1) d_LW_law_650 (by decide) ?_
                          refine x_iadd d_LW_law_651 ?_
                          obtain ⟨g_652, h⟩ := x_gd h
                          refine x_ldS hX hC d_LW_law_652 g_652 ?_
                          refine x_aload_n d_LW_law_653 rfl rfl ?_
                          refine x_iload d_LW_law_654 rfl ?_
                          refine x_iconst (v := 2) d_LW_law_656 (by decide) ?_
                          refine x_iadd d_LW_law_657 ?_
                          obtain ⟨g_658, h⟩ := x_gd h
                          refine x_ldS hX hC d_LW_law_658 g_658 ?_
                          refine x_aload_n d_LW_law_659 rfl rfl ?_
                          obtain ⟨r660, e660, h⟩ := x_bd h
                          refine x_fSi (M2 := M_LW_find) (As := [.ref 0, .int (xs (l4 + 1).toNatClampNeg), .int (xs (l4 + 2).toNatClampNeg), .ref 424]) (st := []) d_LW_law_660 w_963 k_LW_find (c_LW_find e660) rfl ⟨Nat.le_of_ble_eq_true rfl, Nat.le_of_ble_eq_true rfl⟩ (Nat.le_of_ble_eq_true rfl) (Nat.le_of_ble_eq_true rfl) (by show _ ≤ 601024; omega) (by show _ ≤ 7293034; omega) rfl ?_
                          refine x_wide (c1 := cz + 2) (s1 := sz + 12) (by first | omega | (show _ + (_ : Nat) ≤ _; omega)) (by first | omega | (show _ + (_ : Nat) ≤ _; omega)) ?_
                          refine x_istore (lv2 := [(0, .ref (x_N + 39)), (1, .ref 0), (2, .ref 387), (3, .ref 424), (4, .int l4), (5, .int r660.1)]) d_LW_law_663 (by decide) rfl ?_
                          refine x_aload_n d_LW_law_665 rfl rfl ?_
                          refine x_aload_n d_LW_law_666 rfl rfl ?_
                          refine x_iload d_LW_law_667 rfl ?_
                          refine x_iconst (v := 1) d_LW_law_669 (by decide) ?_
                          refine x_iadd d_LW_law_670 ?_
                          obtain ⟨g_671, h⟩ := x_gd h
                          refine x_ldS hX hC d_LW_law_671 g_671 ?_
                          refine x_aload_n d_LW_law_672 rfl rfl ?_
                          refine x_iload d_LW_law_673 rfl ?_
                          refine x_iconst (v := 2) d_LW_law_675 (by decide) ?_
                          refine x_iadd d_LW_law_676 ?_
                          obtain ⟨g_677, h⟩ := x_gd h
                          refine x_ldS hX hC d_LW_law_677 g_677 ?_
                          obtain ⟨r678, e678, h⟩ := x_bd h
                          refine x_dVi (M2 := M_MD_find) (As := [.int (xs (l4 + 1).toNatClampNeg), .int (xs (l4 + 2).toNatClampNeg)]) (st := []) d_LW_law_678 w_1479 k_MD_find (c_MD_find e678) rfl sh_MD hp_MD rfl ⟨Nat.le_of_ble_eq_true rfl, Nat.le_of_ble_eq_true rfl⟩ (Nat.le_of_ble_eq_true rfl) (Nat.le_of_ble_eq_true rfl) (by show _ ≤ 601024; omega) (by show _ ≤ 7293034; omega) rfl ?_
                          refine x_istore (lv2 := [(0, .ref (x_N + 39)), (1, .ref 0), (2, .ref 387), (3, .ref 424), (4, .int l4), (5, .int r660.1), (6, .int r678.1)]) d_LW_law_681 (by decide) rfl ?_
                          refine x_aload_n d_LW_law_683 rfl rfl ?_
                          obtain ⟨r684, e684, h⟩ := x_bd h
                          refine x_dVi (M2 := M_MD_thrown) (As := []) (st := []) d_LW_law_684 w_1220 k_MD_thrown (c_MD_thrown e684) rfl sh_MD hp_MD rfl ⟨Nat.le_of_ble_eq_true rfl, Nat.le_of_ble_eq_true rfl⟩ (Nat.le_of_ble_eq_true rfl) (Nat.le_of_ble_eq_true rfl) (by show _ ≤ 601024; omega) (by show _ ≤ 7293034; omega) rfl ?_
                          refine x_iload d_LW_law_687 rfl ?_
                          refine x_icmp_eq (tgt := 694) d_LW_law_689 (by decide) (fun c_ => ?_) (fun c_ => ?_)
                          · replace h := x_it h c_
                            refine x_iload d_LW_law_694 rfl ?_
                            refine x_if_ne (tgt := 711) d_LW_law_696 (by decide) (fun c_ => ?_) (fun c_ => ?_)
                            · replace h := x_ie h c_
                              refine x_sbk [0, 1, 2, 3, 4] (lv2 := [(0, .ref (x_N + 39)), (1, .ref 0), (2, .ref 387), (3, .ref 424), (4, .int l4)]) rfl ?_; first | exact b_LW_law_711 hX hC hcz hsz hK23 h | (refine x_wide (c1 := cz + 2) (s1 := sz + 12) (by omega) (by omega) ?_; exact b_LW_law_711 hX hC hcz hsz hK23 h)
                            · replace h := x_it h c_
                              refine x_aload_n d_LW_law_699 rfl rfl ?_
                              refine x_iconst (v := 0) d_LW_law_700 (by decide) ?_
                              refine x_lL d_LW_law_701 rfl sa_OUT ha_OUT rfl ?_
                              refine x_iload d_LW_law_702 rfl ?_
                              refine x_i2l d_LW_law_704 ?_
                              refine x_lcmp d_LW_law_705 ?_
                              refine x_if_eq (tgt := 711) d_LW_law_706 (by decide) (fun c_ => ?_) (fun c_ => ?_)
                              · replace h := x_it h c_
                                refine x_sbk [0, 1, 2, 3, 4] (lv2 := [(0, .ref (x_N + 39)), (1, .ref 0), (2, .ref 387), (3, .ref 424), (4, .int l4)]) rfl ?_; first | exact b_LW_law_711 hX hC hcz hsz hK23 h | (refine x_wide (c1 := cz + 2) (s1 := sz + 12) (by omega) (by omega) ?_; exact b_LW_law_711 hX hC hcz hsz hK23 h)
                              · replace h := x_ie h c_
                                refine x_iconst (v := 0) d_LW_law_709 (by decide) ?_
                                cases h
                                exact x_wi d_LW_law_710 rfl rfl (by show _ ≤ 601024; omega) (by show _ ≤ 7293034; omega)
                          · replace h := x_ie h c_
                            refine x_iconst (v := 0) d_LW_law_692 (by decide) ?_
                            cases h
                            exact x_wi d_LW_law_693 rfl rfl (by show _ ≤ 601024; omega) (by show _ ≤ 7293034; omega)
                        · replace h := x_ie h c9_
                          by_cases c10_ : ((xs l4.toNatClampNeg) &&& 15) = 10
                          · replace h := x_it h c10_
                            refine x_tsI (tgt := 714) d_LW_law_40 c10_ (by decide) (by decide) rfl (by decide) ?_
                            refine x_aload_n d_LW_law_714 rfl rfl ?_
                            refine x_aload_n d_LW_law_715 rfl rfl ?_
                            refine x_iload d_LW_law_716 rfl ?_
                            refine x_iconst (v := 1) d_LW_law_718 (by decide) ?_
                            refine x_iadd d_LW_law_719 ?_
                            obtain ⟨g_720, h⟩ := x_gd h
                            refine x_ldS hX hC d_LW_law_720 g_720 ?_
                            refine x_aload_n d_LW_law_721 rfl rfl ?_
                            refine x_iload d_LW_law_722 rfl ?_
                            refine x_iconst (v := 2) d_LW_law_724 (by decide) ?_
                            refine x_iadd d_LW_law_725 ?_
                            obtain ⟨g_726, h⟩ := x_gd h
                            refine x_ldS hX hC d_LW_law_726 g_726 ?_
                            refine x_aload_n d_LW_law_727 rfl rfl ?_
                            obtain ⟨r728, e728, h⟩ := x_bd h
                            refine x_fSi (M2 := M_LW_letter) (As := [.ref 0, .int (xs (l4 + 1).toNatClampNeg), .int (xs (l4 + 2).toNatClampNeg), .ref 424]) (st := []) d_LW_law_728 w_974 k_LW_letter (c_LW_letter e728) rfl ⟨Nat.le_of_ble_eq_true rfl, Nat.le_of_ble_eq_true rfl⟩ (Nat.le_of_ble_eq_true rfl) (Nat.le_of_ble_eq_true rfl) (by show _ ≤ 601024; omega) (by show _ ≤ 7293034; omega) rfl ?_
                            refine x_wide (c1 := cz + 2) (s1 := sz + 12) (by first | omega | (show _ + (_ : Nat) ≤ _; omega)) (by first | omega | (show _ + (_ : Nat) ≤ _; omega)) ?_
                            refine x_istore (lv2 := [(0, .ref (x_N + 39)), (1, .ref 0), (2, .ref 387), (3, .ref 424), (4, .int l4), (5, .int r728.1)]) d_LW_law_731 (by decide) rfl ?_
                            refine x_aload_n d_LW_law_733 rfl rfl ?_
                            refine x_aload_n d_LW_law_734 rfl rfl ?_
                            refine x_iload d_LW_law_735 rfl ?_
                            refine x_iconst (v := 1) d_LW_law_737 (by decide) ?_
                            refine x_iadd d_LW_law_738 ?_
                            obtain ⟨g_739, h⟩ := x_gd h
                            refine x_ldS hX hC d_LW_law_739 g_739 ?_
                            refine x_aload_n d_LW_law_740 rfl rfl ?_
                            refine x_iload d_LW_law_741 rfl ?_
                            refine x_iconst (v := 2) d_LW_law_743 (by decide) ?_
                            refine x_iadd d_LW_law_744 ?_
                            obtain ⟨g_745, h⟩ := x_gd h
                            refine x_ldS hX hC d_LW_law_745 g_745 ?_
                            obtain ⟨r746, e746, h⟩ := x_bd h
                            refine x_dVi (M2 := M_MD_letter) (As := [.int (xs (l4 + 1).toNatClampNeg), .int (xs (l4 + 2).toNatClampNeg)]) (st := []) d_LW_law_746 w_1483 k_MD_letter (c_MD_letter e746) rfl sh_MD hp_MD rfl ⟨Nat.le_of_ble_eq_true rfl, Nat.le_of_ble_eq_true rfl⟩ (Nat.le_of_ble_eq_true rfl) (Nat.le_of_ble_eq_true rfl) (by show _ ≤ 601024; omega) (by show _ ≤ 7293034; omega) rfl ?_
                            refine x_istore (lv2 := [(0, .ref (x_N + 39)), (1, .ref 0), (2, .ref 387), (3, .ref 424), (4, .int l4), (5, .int r728.1), (6, .int r746.1)]) d_LW_law_749 (by decide) rfl ?_
                            refine x_aload_n d_LW_law_751 rfl rfl ?_
                            obtain ⟨r752, e752, h⟩ := x_bd h
                            refine x_dVi (M2 := M_MD_thrown) (As := []) (st := []) d_LW_law_752 w_1220 k_MD_thrown (c_MD_thrown e752) rfl sh_MD hp_MD rfl ⟨Nat.le_of_ble_eq_true rfl, Nat.le_of_ble_eq_true rfl⟩ (Nat.le_of_ble_eq_true rfl) (Nat.le_of_ble_eq_true rfl) (by show _ ≤ 601024; omega) (by show _ ≤ 7293034; omega) rfl ?_
                            refine x_iload d_LW_law_755 rfl ?_
                            refine x_icmp_eq (tgt := 762) d_LW_law_757 (by decide) (fun c_ => ?_) (fun c_ => ?_)
                            · replace h := x_it h c_
                              refine x_iload d_LW_law_762 rfl ?_
                              refine x_if_ne (tgt := 779) d_LW_law_764 (by decide) (fun c_ => ?_) (fun c_ => ?_)
                              · replace h := x_ie h c_
                                refine x_sbk [0, 1, 2, 3, 4] (lv2 := [(0, .ref (x_N + 39)), (1, .ref 0), (2, .ref 387), (3, .ref 424), (4, .int l4)]) rfl ?_; first | exact b_LW_law_779 hX hC hcz hsz hK23 h | (refine x_wide (c1 := cz + 2) (s1 := sz + 12) (by omega) (by omega) ?_; exact b_LW_law_779 hX hC hcz hsz hK23 h)
                              · replace h := x_it h c_
                                refine x_aload_n d_LW_law_767 rfl rfl ?_
                                refine x_iconst (v := 0) d_LW_law_768 (by decide) ?_
                                refine x_lL d_LW_law_769 rfl sa_OUT ha_OUT rfl ?_
                                refine x_iload d_LW_law_770 rfl ?_
                                refine x_i2l d_LW_law_772 ?_
                                refine x_lcmp d_LW_law_773 ?_
                                refine x_if_eq (tgt := 779) d_LW_law_774 (by decide) (fun c_ => ?_) (fun c_ => ?_)
                                · replace h := x_it h c_
                                  refine x_sbk [0, 1, 2, 3, 4] (lv2 := [(0, .ref (x_N + 39)), (1, .ref 0), (2, .ref 387), (3, .ref 424), (4, .int l4)]) rfl ?_; first | exact b_LW_law_779 hX hC hcz hsz hK23 h | (refine x_wide (c1 := cz + 2) (s1 := sz + 12) (by omega) (by omega) ?_; exact b_LW_law_779 hX hC hcz hsz hK23 h)
                                · replace h := x_ie h c_
                                  refine x_iconst (v := 0) d_LW_law_777 (by decide) ?_
                                  cases h
                                  exact x_wi d_LW_law_778 rfl rfl (by show _ ≤ 601024; omega) (by show _ ≤ 7293034; omega)
                            · replace h := x_ie h c_
                              refine x_iconst (v := 0) d_LW_law_760 (by decide) ?_
                              cases h
                              exact x_wi d_LW_law_761 rfl rfl (by show _ ≤ 601024; omega) (by show _ ≤ 7293034; omega)
                          · replace h := x_ie h c10_
                            by_cases c11_ : ((xs l4.toNatClampNeg) &&& 15) = 11
                            · replace h := x_it h c11_
                              refine x_tsI (tgt := 782) d_LW_law_40 c11_ (by decide) (by decide) rfl (by decide) ?_
                              refine x_aload_n d_LW_law_782 rfl rfl ?_
                              refine x_aload_n d_LW_law_783 rfl rfl ?_
                              refine x_iload d_LW_law_784 rfl ?_
                              refine x_iconst (v := 1) d_LW_law_786 (by decide) ?_
                              refine x_iadd d_LW_law_787 ?_
                              obtain ⟨g_788, h⟩ := x_gd h
                              refine x_ldS hX hC d_LW_law_788 g_788 ?_
                              refine x_aload_n d_LW_law_789 rfl rfl ?_
                              refine x_iload d_LW_law_790 rfl ?_
                              refine x_iconst (v := 2) d_LW_law_792 (by decide) ?_
                              refine x_iadd d_LW_law_793 ?_
                              obtain ⟨g_794, h⟩ := x_gd h
                              refine x_ldS hX hC d_LW_law_794 g_794 ?_
                              refine x_aload_n d_LW_law_795 rfl rfl ?_
                              obtain ⟨r796, e796, h⟩ := x_bd h
                              refine x_fSi (M2 := M_LW_item) (As := [.ref 0, .int (xs (l4 + 1).toNatClampNeg), .int (xs (l4 + 2).toNatClampNeg), .ref 424]) (st := []) d_LW_law_796 w_996 k_LW_item (c_LW_item e796) rfl ⟨Nat.le_of_ble_eq_true rfl, Nat.le_of_ble_eq_true rfl⟩ (Nat.le_of_ble_eq_true rfl) (Nat.le_of_ble_eq_true rfl) (by show _ ≤ 601024; omega) (by show _ ≤ 7293034; omega) rfl ?_
                              refine x_wide (c1 := cz + 2) (s1 := sz + 12) (by first | omega | (show _ + (_ : Nat) ≤ _; omega)) (by first | omega | (show _ + (_ : Nat) ≤ _; omega)) ?_
                              refine x_istore (lv2 := [(0, .ref (x_N + 39)), (1, .ref 0), (2, .ref 387), (3, .ref 424), (4, .int l4), (5, .int r796.1)]) d_LW_law_799 (by decide) rfl ?_
                              refine x_aload_n d_LW_law_801 rfl rfl ?_
                              refine x_aload_n d_LW_law_802 rfl rfl ?_
                              refine x_iload d_LW_law_803 rfl ?_
                              refine x_iconst (v := 1) d_LW_law_805 (by decide) ?_
                              refine x_iadd d_LW_law_806 ?_
                              obtain ⟨g_807, h⟩ := x_gd h
                              refine x_ldS hX hC d_LW_law_807 g_807 ?_
                              refine x_aload_n d_LW_law_808 rfl rfl ?_
                              refine x_iload d_LW_law_809 rfl ?_
                              refine x_iconst (v := 2) d_LW_law_811 (by decide) ?_
                              refine x_iadd d_LW_law_812 ?_
                              obtain ⟨g_813, h⟩ := x_gd h
                              refine x_ldS hX hC d_LW_law_813 g_813 ?_
                              obtain ⟨r814, e814, h⟩ := x_bd h
                              refine x_dVi (M2 := M_MD_item2) (As := [.int (xs (l4 + 1).toNatClampNeg), .int (xs (l4 + 2).toNatClampNeg)]) (st := []) d_LW_law_814 w_1491 k_MD_item2 (c_MD_item2 e814) rfl sh_MD hp_MD rfl ⟨Nat.le_of_ble_eq_true rfl, Nat.le_of_ble_eq_true rfl⟩ (Nat.le_of_ble_eq_true rfl) (Nat.le_of_ble_eq_true rfl) (by show _ ≤ 601024; omega) (by show _ ≤ 7293034; omega) rfl ?_
                              refine x_istore (lv2 := [(0, .ref (x_N + 39)), (1, .ref 0), (2, .ref 387), (3, .ref 424), (4, .int l4), (5, .int r796.1), (6, .int r814.1)]) d_LW_law_817 (by decide) rfl ?_
                              refine x_aload_n d_LW_law_819 rfl rfl ?_
                              obtain ⟨r820, e820, h⟩ := x_bd h
                              refine x_dVi (M2 := M_MD_thrown) (As := []) (st := []) d_LW_law_820 w_1220 k_MD_thrown (c_MD_thrown e820) rfl sh_MD hp_MD rfl ⟨Nat.le_of_ble_eq_true rfl, Nat.le_of_ble_eq_true rfl⟩ (Nat.le_of_ble_eq_true rfl) (Nat.le_of_ble_eq_true rfl) (by show _ ≤ 601024; omega) (by show _ ≤ 7293034; omega) rfl ?_
                              refine x_iload d_LW_law_823 rfl ?_
                              refine x_icmp_eq (tgt := 830) d_LW_law_825 (by decide) (fun c_ => ?_) (fun c_ => ?_)
                              · replace h := x_it h c_
                                refine x_iload d_LW_law_830 rfl ?_
                                refine x_if_ne (tgt := 847) d_LW_law_832 (by decide) (fun c_ => ?_) (fun c_ => ?_)
                                · replace h := x_ie h c_
                                  refine x_sbk [0, 1, 2, 3, 4] (lv2 := [(0, .ref (x_N + 39)), (1, .ref 0), (2, .ref 387), (3, .ref 424), (4, .int l4)]) rfl ?_; first | exact b_LW_law_847 hX hC hcz hsz hK23 h | (refine x_wide (c1 := cz + 2) (s1 := sz + 12) (by omega) (by omega) ?_; exact b_LW_law_847 hX hC hcz hsz hK23 h)
                                · replace h := x_it h c_
                                  refine x_aload_n d_LW_law_835 rfl rfl ?_
                                  refine x_iconst (v := 0) d_LW_law_836 (by decide) ?_
                                  refine x_lL d_LW_law_837 rfl sa_OUT ha_OUT rfl ?_
                                  refine x_iload d_LW_law_838 rfl ?_
                                  refine x_i2l d_LW_law_840 ?_
                                  refine x_lcmp d_LW_law_841 ?_
                                  refine x_if_eq (tgt := 847) d_LW_law_842 (by decide) (fun c_ => ?_) (fun c_ => ?_)
                                  · replace h := x_it h c_
                                    refine x_sbk [0, 1, 2, 3, 4] (lv2 := [(0, .ref (x_N + 39)), (1, .ref 0), (2, .ref 387), (3, .ref 424), (4, .int l4)]) rfl ?_; first | exact b_LW_law_847 hX hC hcz hsz hK23 h | (refine x_wide (c1 := cz + 2) (s1 := sz + 12) (by omega) (by omega) ?_; exact b_LW_law_847 hX hC hcz hsz hK23 h)
                                  · replace h := x_ie h c_
                                    refine x_iconst (v := 0) d_LW_law_845 (by decide) ?_
                                    cases h
                                    exact x_wi d_LW_law_846 rfl rfl (by show _ ≤ 601024; omega) (by show _ ≤ 7293034; omega)
                              · replace h := x_ie h c_
                                refine x_iconst (v := 0) d_LW_law_828 (by decide) ?_
                                cases h
                                exact x_wi d_LW_law_829 rfl rfl (by show _ ≤ 601024; omega) (by show _ ≤ 7293034; omega)
                            · replace h := x_ie h c11_
                              by_cases c12_ : ((xs l4.toNatClampNeg) &&& 15) = 12
                              · replace h := x_it h c12_
                                refine x_tsI (tgt := 850) d_LW_law_40 c12_ (by decide) (by decide) rfl (by decide) ?_
                                refine x_aload_n d_LW_law_850 rfl rfl ?_
                                refine x_aload_n d_LW_law_851 rfl rfl ?_
                                refine x_iload d_LW_law_852 rfl ?_
                                refine x_iconst (v := 1) d_LW_law_854 (by decide) ?_
                                refine x_iadd d_LW_law_855 ?_
                                obtain ⟨g_856, h⟩ := x_gd h
                                refine x_ldS hX hC d_LW_law_856 g_856 ?_
                                refine x_aload_n d_LW_law_857 rfl rfl ?_
                                obtain ⟨r858, e858, h⟩ := x_bd h
                                refine x_fSi (M2 := M_LW_group) (As := [.ref 0, .int (xs (l4 + 1).toNatClampNeg), .ref 424]) (st := []) d_LW_law_858 w_1003 k_LW_group (c_LW_group e858) rfl ⟨Nat.le_of_ble_eq_true rfl, Nat.le_of_ble_eq_true rfl⟩ (Nat.le_of_ble_eq_true rfl) (Nat.le_of_ble_eq_true rfl) (by show _ ≤ 601024; omega) (by show _ ≤ 7293034; omega) rfl ?_
                                refine x_wide (c1 := cz + 2) (s1 := sz + 12) (by first | omega | (show _ + (_ : Nat) ≤ _; omega)) (by first | omega | (show _ + (_ : Nat) ≤ _; omega)) ?_
                                refine x_istore (lv2 := [(0, .ref (x_N + 39)), (1, .ref 0), (2, .ref 387), (3, .ref 424), (4, .int l4), (5, .int r858.1)]) d_LW_law_861 (by decide) rfl ?_
                                refine x_aload_n d_LW_law_863 rfl rfl ?_
                                refine x_aload_n d_LW_law_864 rfl rfl ?_
                                refine x_iload d_LW_law_865 rfl ?_
                                refine x_iconst (v := 1) d_LW_law_867 (by decide) ?_
                                refine x_iadd d_LW_law_868 ?_
                                obtain ⟨g_869, h⟩ := x_gd h
                                refine x_ldS hX hC d_LW_law_869 g_869 ?_
                                obtain ⟨r870, e870, h⟩ := x_bd h
                                refine x_dVi (M2 := M_MD_group) (As := [.int (xs (l4 + 1).toNatClampNeg)]) (st := []) d_LW_law_870 w_1495 k_MD_group (c_MD_group e870) rfl sh_MD hp_MD rfl ⟨Nat.le_of_ble_eq_true rfl, Nat.le_of_ble_eq_true rfl⟩ (Nat.le_of_ble_eq_true rfl) (Nat.le_of_ble_eq_true rfl) (by show _ ≤ 601024; omega) (by show _ ≤ 7293034; omega) rfl ?_
                                refine x_istore (lv2 := [(0, .ref (x_N + 39)), (1, .ref 0), (2, .ref 387), (3, .ref 424), (4, .int l4), (5, .int r858.1), (6, .int r870.1)]) d_LW_law_873 (by decide) rfl ?_
                                refine x_aload_n d_LW_law_875 rfl rfl ?_
                                obtain ⟨r876, e876, h⟩ := x_bd h
                                refine x_dVi (M2 := M_MD_thrown) (As := []) (st := []) d_LW_law_876 w_1220 k_MD_thrown (c_MD_thrown e876) rfl sh_MD hp_MD rfl ⟨Nat.le_of_ble_eq_true rfl, Nat.le_of_ble_eq_true rfl⟩ (Nat.le_of_ble_eq_true rfl) (Nat.le_of_ble_eq_true rfl) (by show _ ≤ 601024; omega) (by show _ ≤ 7293034; omega) rfl ?_
                                refine x_iload d_LW_law_879 rfl ?_
                                refine x_icmp_eq (tgt := 886) d_LW_law_881 (by decide) (fun c_ => ?_) (fun c_ => ?_)
                                · replace h := x_it h c_
                                  refine x_iload d_LW_law_886 rfl ?_
                                  refine x_if_ne (tgt := 903) d_LW_law_888 (by decide) (fun c_ => ?_) (fun c_ => ?_)
                                  · replace h := x_ie h c_
                                    refine x_sbk [0, 1, 2, 3, 4] (lv2 := [(0, .ref (x_N + 39)), (1, .ref 0), (2, .ref 387), (3, .ref 424), (4, .int l4)]) rfl ?_; first | exact b_LW_law_903 hX hC hcz hsz hK23 h | (refine x_wide (c1 := cz + 2) (s1 := sz + 12) (by omega) (by omega) ?_; exact b_LW_law_903 hX hC hcz hsz hK23 h)
                                  · replace h := x_it h c_
                                    refine x_aload_n d_LW_law_891 rfl rfl ?_
                                    refine x_iconst (v := 0) d_LW_law_892 (by decide) ?_
                                    refine x_lL d_LW_law_893 rfl sa_OUT ha_OUT rfl ?_
                                    refine x_iload d_LW_law_894 rfl ?_
                                    refine x_i2l d_LW_law_896 ?_
                                    refine x_lcmp d_LW_law_897 ?_
                                    refine x_if_eq (tgt := 903) d_LW_law_898 (by decide) (fun c_ => ?_) (fun c_ => ?_)
                                    · replace h := x_it h c_
                                      refine x_sbk [0, 1, 2, 3, 4] (lv2 := [(0, .ref (x_N + 39)), (1, .ref 0), (2, .ref 387), (3, .ref 424), (4, .int l4)]) rfl ?_; first | exact b_LW_law_903 hX hC hcz hsz hK23 h | (refine x_wide (c1 := cz + 2) (s1 := sz + 12) (by omega) (by omega) ?_; exact b_LW_law_903 hX hC hcz hsz hK23 h)
                                    · replace h := x_ie h c_
                                      refine x_iconst (v := 0) d_LW_law_901 (by decide) ?_
                                      cases h
                                      exact x_wi d_LW_law_902 rfl rfl (by show _ ≤ 601024; omega) (by show _ ≤ 7293034; omega)
                                · replace h := x_ie h c_
                                  refine x_iconst (v := 0) d_LW_law_884 (by decide) ?_
                                  cases h
                                  exact x_wi d_LW_law_885 rfl rfl (by show _ ≤ 601024; omega) (by show _ ≤ 7293034; omega)
                              · replace h := x_ie h c12_
                                by_cases c13_ : ((xs l4.toNatClampNeg) &&& 15) = 13
                                · replace h := x_it h c13_
                                  refine x_tsI (tgt := 906) d_LW_law_40 c13_ (by decide) (by decide) rfl (by decide) ?_
                                  refine x_aload_n d_LW_law_906 rfl rfl ?_
                                  refine x_aload_n d_LW_law_907 rfl rfl ?_
                                  refine x_iload d_LW_law_908 rfl ?_
                                  refine x_iconst (v := 1) d_LW_law_910 (by decide) ?_
                                  refine x_iadd d_LW_law_911 ?_
                                  obtain ⟨g_912, h⟩ := x_gd h
                                  refine x_ldS hX hC d_LW_law_912 g_912 ?_
                                  refine x_aload_n d_LW_law_913 rfl rfl ?_
                                  obtain ⟨r914, e914, h⟩ := x_bd h
                                  refine x_fSi (M2 := M_LW_set) (As := [.ref 0, .int (xs (l4 + 1).toNatClampNeg), .ref 424]) (st := []) d_LW_law_914 w_1010 k_LW_set (c_LW_set e914) rfl ⟨Nat.le_of_ble_eq_true rfl, Nat.le_of_ble_eq_true rfl⟩ (Nat.le_of_ble_eq_true rfl) (Nat.le_of_ble_eq_true rfl) (by show _ ≤ 601024; omega) (by show _ ≤ 7293034; omega) rfl ?_
                                  refine x_wide (c1 := cz + 2) (s1 := sz + 12) (by first | omega | (show _ + (_ : Nat) ≤ _; omega)) (by first | omega | (show _ + (_ : Nat) ≤ _; omega)) ?_
                                  refine x_istore (lv2 := [(0, .ref (x_N + 39)), (1, .ref 0), (2, .ref 387), (3, .ref 424), (4, .int l4), (5, .int r914.1)]) d_LW_law_917 (by decide) rfl ?_
                                  refine x_aload_n d_LW_law_919 rfl rfl ?_
                                  refine x_aload_n d_LW_law_920 rfl rfl ?_
                                  refine x_iload d_LW_law_921 rfl ?_
                                  refine x_iconst (v := 1) d_LW_law_923 (by decide) ?_
                                  refine x_iadd d_LW_law_924 ?_
                                  obtain ⟨g_925, h⟩ := x_gd h
                                  refine x_ldS hX hC d_LW_law_925 g_925 ?_
                                  obtain ⟨r926, e926, h⟩ := x_bd h
                                  refine x_dVi (M2 := M_MD_set) (As := [.int (xs (l4 + 1).toNatClampNeg)]) (st := []) d_LW_law_926 w_1499 k_MD_set (c_MD_set e926) rfl sh_MD hp_MD rfl ⟨Nat.le_of_ble_eq_true rfl, Nat.le_of_ble_eq_true rfl⟩ (Nat.le_of_ble_eq_true rfl) (Nat.le_of_ble_eq_true rfl) (by show _ ≤ 601024; omega) (by show _ ≤ 7293034; omega) rfl ?_
                                  refine x_istore (lv2 := [(0, .ref (x_N + 39)), (1, .ref 0), (2, .ref 387), (3, .ref 424), (4, .int l4), (5, .int r914.1), (6, .int r926.1)]) d_LW_law_929 (by decide) rfl ?_
                                  refine x_aload_n d_LW_law_931 rfl rfl ?_
                                  obtain ⟨r932, e932, h⟩ := x_bd h
                                  refine x_dVi (M2 := M_MD_thrown) (As := []) (st := []) d_LW_law_932 w_1220 k_MD_thrown (c_MD_thrown e932) rfl sh_MD hp_MD rfl ⟨Nat.le_of_ble_eq_true rfl, Nat.le_of_ble_eq_true rfl⟩ (Nat.le_of_ble_eq_true rfl) (Nat.le_of_ble_eq_true rfl) (by show _ ≤ 601024; omega) (by show _ ≤ 7293034; omega) rfl ?_
                                  refine x_iload d_LW_law_935 rfl ?_
                                  refine x_icmp_eq (tgt := 942) d_LW_law_937 (by decide) (fun c_ => ?_) (fun c_ => ?_)
                                  · replace h := x_it h c_
                                    refine x_iload d_LW_law_942 rfl ?_
                                    refine x_if_ne (tgt := 959) d_LW_law_944 (by decide) (fun c_ => ?_) (fun c_ => ?_)
                                    · replace h := x_ie h c_
                                      refine x_sbk [0, 1, 2, 3, 4] (lv2 := [(0, .ref (x_N + 39)), (1, .ref 0), (2, .ref 387), (3, .ref 424), (4, .int l4)]) rfl ?_; first | exact b_LW_law_959 hX hC hcz hsz hK23 h | (refine x_wide (c1 := cz + 2) (s1 := sz + 12) (by omega) (by omega) ?_; exact b_LW_law_959 hX hC hcz hsz hK23 h)
                                    · replace h := x_it h c_
                                      refine x_aload_n d_LW_law_947 rfl rfl ?_
                                      refine x_iconst (v := 0) d_LW_law_948 (by decide) ?_
                                      refine x_lL d_LW_law_949 rfl sa_OUT ha_OUT rfl ?_
                                      refine x_iload d_LW_law_950 rfl ?_
                                      refine x_i2l d_LW_law_952 ?_
                                      refine x_lcmp d_LW_law_953 ?_
                                      refine x_if_eq (tgt := 959) d_LW_law_954 (by decide) (fun c_ => ?_) (fun c_ => ?_)
                                      · replace h := x_it h c_
                                        refine x_sbk [0, 1, 2, 3, 4] (lv2 := [(0, .ref (x_N + 39)), (1, .ref 0), (2, .ref 387), (3, .ref 424), (4, .int l4)]) rfl ?_; first | exact b_LW_law_959 hX hC hcz hsz hK23 h | (refine x_wide (c1 := cz + 2) (s1 := sz + 12) (by omega) (by omega) ?_; exact b_LW_law_959 hX hC hcz hsz hK23 h)
                                      · replace h := x_ie h c_
                                        refine x_iconst (v := 0) d_LW_law_957 (by decide) ?_
                                        cases h
                                        exact x_wi d_LW_law_958 rfl rfl (by show _ ≤ 601024; omega) (by show _ ≤ 7293034; omega)
                                  · replace h := x_ie h c_
                                    refine x_iconst (v := 0) d_LW_law_940 (by decide) ?_
                                    cases h
                                    exact x_wi d_LW_law_941 rfl rfl (by show _ ≤ 601024; omega) (by show _ ≤ 7293034; omega)
                                · replace h := x_ie h c13_
                                  by_cases c14_ : ((xs l4.toNatClampNeg) &&& 15) = 14
                                  · replace h := x_it h c14_
                                    refine x_tsI (tgt := 962) d_LW_law_40 c14_ (by decide) (by decide) rfl (by decide) ?_
                                    refine x_aload_n d_LW_law_962 rfl rfl ?_
                                    refine x_aload_n d_LW_law_963 rfl rfl ?_
                                    refine x_iload d_LW_law_964 rfl ?_
                                    refine x_iconst (v := 1) d_LW_law_966 (by decide) ?_
                                    refine x_iadd d_LW_law_967 ?_
                                    obtain ⟨g_968, h⟩ := x_gd h
                                    refine x_ldS hX hC d_LW_law_968 g_968 ?_
                                    refine x_aload_n d_LW_law_969 rfl rfl ?_
                                    refine x_iload d_LW_law_970 rfl ?_
                                    refine x_iconst (v := 2) d_LW_law_972 (by decide) ?_
                                    refine x_iadd d_LW_law_973 ?_
                                    obtain ⟨g_974, h⟩ := x_gd h
                                    refine x_ldS hX hC d_LW_law_974 g_974 ?_
                                    refine x_aload_n d_LW_law_975 rfl rfl ?_
                                    obtain ⟨r976, e976, h⟩ := x_bd h
                                    refine x_fSi (M2 := M_LW_pick) (As := [.ref 0, .int (xs (l4 + 1).toNatClampNeg), .int (xs (l4 + 2).toNatClampNeg), .ref 424]) (st := []) d_LW_law_976 w_1017 k_LW_pick (c_LW_pick e976) rfl ⟨Nat.le_of_ble_eq_true rfl, Nat.le_of_ble_eq_true rfl⟩ (Nat.le_of_ble_eq_true rfl) (Nat.le_of_ble_eq_true rfl) (by show _ ≤ 601024; omega) (by show _ ≤ 7293034; omega) rfl ?_
                                    refine x_wide (c1 := cz + 2) (s1 := sz + 12) (by first | omega | (show _ + (_ : Nat) ≤ _; omega)) (by first | omega | (show _ + (_ : Nat) ≤ _; omega)) ?_
                                    refine x_istore (lv2 := [(0, .ref (x_N + 39)), (1, .ref 0), (2, .ref 387), (3, .ref 424), (4, .int l4), (5, .int r976.1)]) d_LW_law_979 (by decide) rfl ?_
                                    refine x_aload_n d_LW_law_981 rfl rfl ?_
                                    refine x_aload_n d_LW_law_982 rfl rfl ?_
                                    refine x_iload d_LW_law_983 rfl ?_
                                    refine x_iconst (v := 1) d_LW_law_985 (by decide) ?_
                                    refine x_iadd d_LW_law_986 ?_
                                    obtain ⟨g_987, h⟩ := x_gd h
                                    refine x_ldS hX hC d_LW_law_987 g_987 ?_
                                    refine x_aload_n d_LW_law_988 rfl rfl ?_
                                    refine x_iload d_LW_law_989 rfl ?_
                                    refine x_iconst (v := 2) d_LW_law_991 (by decide) ?_
                                    refine x_iadd d_LW_law_992 ?_
                                    obtain ⟨g_993, h⟩ := x_gd h
                                    refine x_ldS hX hC d_LW_law_993 g_993 ?_
                                    obtain ⟨r994, e994, h⟩ := x_bd h
                                    refine x_dVi (M2 := M_MD_pick) (As := [.int (xs (l4 + 1).toNatClampNeg), .int (xs (l4 + 2).toNatClampNeg)]) (st := []) d_LW_law_994 w_1503 k_MD_pick (c_MD_pick e994) rfl sh_MD hp_MD rfl ⟨Nat.le_of_ble_eq_true rfl, Nat.le_of_ble_eq_true rfl⟩ (Nat.le_of_ble_eq_true rfl) (Nat.le_of_ble_eq_true rfl) (by show _ ≤ 601024; omega) (by show _ ≤ 7293034; omega) rfl ?_
                                    refine x_istore (lv2 := [(0, .ref (x_N + 39)), (1, .ref 0), (2, .ref 387), (3, .ref 424), (4, .int l4), (5, .int r976.1), (6, .int r994.1)]) d_LW_law_997 (by decide) rfl ?_
                                    refine x_aload_n d_LW_law_999 rfl rfl ?_
                                    obtain ⟨r1000, e1000, h⟩ := x_bd h
                                    refine x_dVi (M2 := M_MD_thrown) (As := []) (st := []) d_LW_law_1000 w_1220 k_MD_thrown (c_MD_thrown e1000) rfl sh_MD hp_MD rfl ⟨Nat.le_of_ble_eq_true rfl, Nat.le_of_ble_eq_true rfl⟩ (Nat.le_of_ble_eq_true rfl) (Nat.le_of_ble_eq_true rfl) (by show _ ≤ 601024; omega) (by show _ ≤ 7293034; omega) rfl ?_
                                    refine x_iload d_LW_law_1003 rfl ?_
                                    refine x_icmp_eq (tgt := 1010) d_LW_law_1005 (by decide) (fun c_ => ?_) (fun c_ => ?_)
                                    · replace h := x_it h c_
                                      refine x_iload d_LW_law_1010 rfl ?_
                                      refine x_if_ne (tgt := 1027) d_LW_law_1012 (by decide) (fun c_ => ?_) (fun c_ => ?_)
                                      · replace h := x_ie h c_
                                        refine x_sbk [0, 1, 2, 3, 4] (lv2 := [(0, .ref (x_N + 39)), (1, .ref 0), (2, .ref 387), (3, .ref 424), (4, .int l4)]) rfl ?_; first | exact b_LW_law_1027 hX hC hcz hsz hK23 h | (refine x_wide (c1 := cz + 2) (s1 := sz + 12) (by omega) (by omega) ?_; exact b_LW_law_1027 hX hC hcz hsz hK23 h)
                                      · replace h := x_it h c_
                                        refine x_aload_n d_LW_law_1015 rfl rfl ?_
                                        refine x_iconst (v := 0) d_LW_law_1016 (by decide) ?_
                                        refine x_lL d_LW_law_1017 rfl sa_OUT ha_OUT rfl ?_
                                        refine x_iload d_LW_law_1018 rfl ?_
                                        refine x_i2l d_LW_law_1020 ?_
                                        refine x_lcmp d_LW_law_1021 ?_
                                        refine x_if_eq (tgt := 1027) d_LW_law_1022 (by decide) (fun c_ => ?_) (fun c_ => ?_)
                                        · replace h := x_it h c_
                                          refine x_sbk [0, 1, 2, 3, 4] (lv2 := [(0, .ref (x_N + 39)), (1, .ref 0), (2, .ref 387), (3, .ref 424), (4, .int l4)]) rfl ?_; first | exact b_LW_law_1027 hX hC hcz hsz hK23 h | (refine x_wide (c1 := cz + 2) (s1 := sz + 12) (by omega) (by omega) ?_; exact b_LW_law_1027 hX hC hcz hsz hK23 h)
                                        · replace h := x_ie h c_
                                          refine x_iconst (v := 0) d_LW_law_1025 (by decide) ?_
                                          cases h
                                          exact x_wi d_LW_law_1026 rfl rfl (by show _ ≤ 601024; omega) (by show _ ≤ 7293034; omega)
                                    · replace h := x_ie h c_
                                      refine x_iconst (v := 0) d_LW_law_1008 (by decide) ?_
                                      cases h
                                      exact x_wi d_LW_law_1009 rfl rfl (by show _ ≤ 601024; omega) (by show _ ≤ 7293034; omega)
                                  · replace h := x_ie h c14_
                                    by_cases c15_ : ((xs l4.toNatClampNeg) &&& 15) = 15
                                    · replace h := x_it h c15_
                                      refine x_tsI (tgt := 1030) d_LW_law_40 c15_ (by decide) (by decide) rfl (by decide) ?_
                                      refine x_aload_n d_LW_law_1030 rfl rfl ?_
                                      refine x_aload_n d_LW_law_1031 rfl rfl ?_
                                      obtain ⟨r1032, e1032, h⟩ := x_bd h
                                      refine x_fSi (M2 := M_LW_holds) (As := [.ref 0, .ref 424]) (st := []) d_LW_law_1032 w_1024 k_LW_holds (c_LW_holds e1032) rfl ⟨Nat.le_of_ble_eq_true rfl, Nat.le_of_ble_eq_true rfl⟩ (Nat.le_of_ble_eq_true rfl) (Nat.le_of_ble_eq_true rfl) (by show _ ≤ 601024; omega) (by show _ ≤ 7293034; omega) rfl ?_
                                      refine x_wide (c1 := cz + 2) (s1 := sz + 12) (by first | omega | (show _ + (_ : Nat) ≤ _; omega)) (by first | omega | (show _ + (_ : Nat) ≤ _; omega)) ?_
                                      refine x_istore (lv2 := [(0, .ref (x_N + 39)), (1, .ref 0), (2, .ref 387), (3, .ref 424), (4, .int l4), (5, .int r1032.1)]) d_LW_law_1035 (by decide) rfl ?_
                                      refine x_aload_n d_LW_law_1037 rfl rfl ?_
                                      obtain ⟨r1038, e1038, h⟩ := x_bd h
                                      refine x_dVi (M2 := M_MD_holds) (As := []) (st := []) d_LW_law_1038 w_1507 k_MD_holds (c_MD_holds e1038) rfl sh_MD hp_MD rfl ⟨Nat.le_of_ble_eq_true rfl, Nat.le_of_ble_eq_true rfl⟩ (Nat.le_of_ble_eq_true rfl) (Nat.le_of_ble_eq_true rfl) (by show _ ≤ 601024; omega) (by show _ ≤ 7293034; omega) rfl ?_
                                      refine x_istore (lv2 := [(0, .ref (x_N + 39)), (1, .ref 0), (2, .ref 387), (3, .ref 424), (4, .int l4), (5, .int r1032.1), (6, .int r1038.1)]) d_LW_law_1041 (by decide) rfl ?_
                                      refine x_aload_n d_LW_law_1043 rfl rfl ?_
                                      obtain ⟨r1044, e1044, h⟩ := x_bd h
                                      refine x_dVi (M2 := M_MD_thrown) (As := []) (st := []) d_LW_law_1044 w_1220 k_MD_thrown (c_MD_thrown e1044) rfl sh_MD hp_MD rfl ⟨Nat.le_of_ble_eq_true rfl, Nat.le_of_ble_eq_true rfl⟩ (Nat.le_of_ble_eq_true rfl) (Nat.le_of_ble_eq_true rfl) (by show _ ≤ 601024; omega) (by show _ ≤ 7293034; omega) rfl ?_
                                      refine x_iload d_LW_law_1047 rfl ?_
                                      refine x_icmp_eq (tgt := 1054) d_LW_law_1049 (by decide) (fun c_ => ?_) (fun c_ => ?_)
                                      · replace h := x_it h c_
                                        refine x_iload d_LW_law_1054 rfl ?_
                                        refine x_if_ne (tgt := 1078) d_LW_law_1056 (by decide) (fun c_ => ?_) (fun c_ => ?_)
                                        · replace h := x_ie h c_
                                          refine x_sbk [0, 1, 2, 3, 4] (lv2 := [(0, .ref (x_N + 39)), (1, .ref 0), (2, .ref 387), (3, .ref 424), (4, .int l4)]) rfl ?_; first | exact b_LW_law_1078 hX hC hcz hsz hK23 h | (refine x_wide (c1 := cz + 2) (s1 := sz + 12) (by omega) (by omega) ?_; exact b_LW_law_1078 hX hC hcz hsz hK23 h)
                                        · replace h := x_it h c_
                                          refine x_aload_n d_LW_law_1059 rfl rfl ?_
                                          refine x_iconst (v := 0) d_LW_law_1060 (by decide) ?_
                                          refine x_lL d_LW_law_1061 rfl sa_OUT ha_OUT rfl ?_
                                          refine x_iload d_LW_law_1062 rfl ?_
                                          refine x_if_eq (tgt := 1071) d_LW_law_1064 (by decide) (fun c_ => ?_) (fun c_ => ?_)
                                          · replace h := x_it h c_
                                            refine x_lconst (v := 0) d_LW_law_1071 (by decide) ?_
                                            refine x_sbk [0, 1, 2, 3, 4] (lv2 := [(0, .ref (x_N + 39)), (1, .ref 0), (2, .ref 387), (3, .ref 424), (4, .int l4)]) rfl ?_; first | exact b_LW_law_1072 hX hC hcz hsz hK23 h | (refine x_wide (c1 := cz + 2) (s1 := sz + 12) (by omega) (by omega) ?_; exact b_LW_law_1072 hX hC hcz hsz hK23 h)
                                          · replace h := x_ie h c_
                                            refine x_lconst (v := 1) d_LW_law_1067 (by decide) ?_
                                            refine x_goto (tgt := 1072) d_LW_law_1068 (by decide) ?_
                                            refine x_sbk [0, 1, 2, 3, 4] (lv2 := [(0, .ref (x_N + 39)), (1, .ref 0), (2, .ref 387), (3, .ref 424), (4, .int l4)]) rfl ?_; first | exact b_LW_law_1072 hX hC hcz hsz hK23 h | (refine x_wide (c1 := cz + 2) (s1 := sz + 12) (by omega) (by omega) ?_; exact b_LW_law_1072 hX hC hcz hsz hK23 h)
                                      · replace h := x_ie h c_
                                        refine x_iconst (v := 0) d_LW_law_1052 (by decide) ?_
                                        cases h
                                        exact x_wi d_LW_law_1053 rfl rfl (by show _ ≤ 601024; omega) (by show _ ≤ 7293034; omega)
                                    · replace h := x_ie h c15_
                                      refine x_tsO (tgt := 1081) d_LW_law_40 (x_tsd (n := 16) (by decide) (fun j hj => match j, hj with | 0, _ => fun e_ => c0_ (e_.trans (by decide)) | 1, _ => fun e_ => c1_ (e_.trans (by decide)) | 2, _ => fun e_ => c2_ (e_.trans (by decide)) | 3, _ => fun e_ => c3_ (e_.trans (by decide)) | 4, _ => fun e_ => c4_ (e_.trans (by decide)) | 5, _ => fun e_ => c5_ (e_.trans (by decide)) | 6, _ => fun e_ => c6_ (e_.trans (by decide)) | 7, _ => fun e_ => c7_ (e_.trans (by decide)) | 8, _ => fun e_ => c8_ (e_.trans (by decide)) | 9, _ => fun e_ => c9_ (e_.trans (by decide)) | 10, _ => fun e_ => c10_ (e_.trans (by decide)) | 11, _ => fun e_ => c11_ (e_.trans (by decide)) | 12, _ => fun e_ => c12_ (e_.trans (by decide)) | 13, _ => fun e_ => c13_ (e_.trans (by decide)) | 14, _ => fun e_ => c14_ (e_.trans (by decide)) | 15, _ => fun e_ => c15_ (e_.trans (by decide)) | _ + 16, hz => absurd hz (by omega))) (by decide) ?_
                                      first | exact b_LW_law_1081 hX hC hcz hsz hK23 h | (refine x_wide (c1 := cz + 2) (s1 := sz + 12) (by omega) (by omega) ?_; exact b_LW_law_1081 hX hC hcz hsz hK23 h)
