theorem d_W_law_0 : decode c_W_law 0 = .ok (.new 7, 3) := by decide +kernel
theorem d_W_law_3 : decode c_W_law 3 = .ok (.dup, 1) := by decide +kernel
theorem d_W_law_4 : decode c_W_law 4 = .ok (.invokespecial 9, 3) := by decide +kernel
theorem d_W_law_7 : decode c_W_law 7 = .ok (.astore_n 1, 1) := by decide +kernel
theorem d_W_law_8 : decode c_W_law 8 = .ok (.new 10, 3) := by decide +kernel
theorem d_W_law_11 : decode c_W_law 11 = .ok (.dup, 1) := by decide +kernel
theorem d_W_law_12 : decode c_W_law 12 = .ok (.invokespecial 12, 3) := by decide +kernel
theorem d_W_law_15 : decode c_W_law 15 = .ok (.astore_n 2, 1) := by decide +kernel
theorem d_W_law_16 : decode c_W_law 16 = .ok (.iconst 0, 1) := by decide +kernel
theorem d_W_law_17 : decode c_W_law 17 = .ok (.istore_n 3, 1) := by decide +kernel
theorem d_W_law_18 : decode c_W_law 18 = .ok (.iload_n 3, 1) := by decide +kernel
theorem d_W_law_19 : decode c_W_law 19 = .ok (.aload_n 0, 1) := by decide +kernel
theorem d_W_law_20 : decode c_W_law 20 = .ok (.arraylength, 1) := by decide +kernel
theorem d_W_law_21 : decode c_W_law 21 = .ok (.iconst 5, 1) := by decide +kernel
theorem d_W_law_22 : decode c_W_law 22 = .ok (.isub, 1) := by decide +kernel
theorem d_W_law_23 : decode c_W_law 23 = .ok (.if_icmp .gt 673, 3) := by decide +kernel
theorem d_W_law_26 : decode c_W_law 26 = .ok (.aload_n 0, 1) := by decide +kernel
theorem d_W_law_27 : decode c_W_law 27 = .ok (.iload_n 3, 1) := by decide +kernel
theorem d_W_law_28 : decode c_W_law 28 = .ok (.iaload, 1) := by decide +kernel
theorem d_W_law_29 : decode c_W_law 29 = .ok (.bipush 15, 2) := by decide +kernel
theorem d_W_law_31 : decode c_W_law 31 = .ok (.iand, 1) := by decide +kernel
theorem d_W_law_32 : decode c_W_law 32 = .ok (.tableswitch 658 0 15 #[80, 113, 166, 199, 262, 275, 298, 321, 354, 427, 500, 563, 576, 589, 612, 635], 80) := by decide +kernel
theorem d_W_law_112 : decode c_W_law 112 = .ok (.aload_n 1, 1) := by decide +kernel
theorem d_W_law_113 : decode c_W_law 113 = .ok (.aload_n 0, 1) := by decide +kernel
theorem d_W_law_114 : decode c_W_law 114 = .ok (.iload_n 3, 1) := by decide +kernel
theorem d_W_law_115 : decode c_W_law 115 = .ok (.iconst 1, 1) := by decide +kernel
theorem d_W_law_116 : decode c_W_law 116 = .ok (.iadd, 1) := by decide +kernel
theorem d_W_law_117 : decode c_W_law 117 = .ok (.iaload, 1) := by decide +kernel
theorem d_W_law_118 : decode c_W_law 118 = .ok (.aload_n 0, 1) := by decide +kernel
theorem d_W_law_119 : decode c_W_law 119 = .ok (.iload_n 3, 1) := by decide +kernel
theorem d_W_law_120 : decode c_W_law 120 = .ok (.iconst 2, 1) := by decide +kernel
theorem d_W_law_121 : decode c_W_law 121 = .ok (.iadd, 1) := by decide +kernel
theorem d_W_law_122 : decode c_W_law 122 = .ok (.iaload, 1) := by decide +kernel
theorem d_W_law_123 : decode c_W_law 123 = .ok (.invokevirtual 13, 3) := by decide +kernel
theorem d_W_law_126 : decode c_W_law 126 = .ok (.aload_n 2, 1) := by decide +kernel
theorem d_W_law_127 : decode c_W_law 127 = .ok (.aload_n 0, 1) := by decide +kernel
theorem d_W_law_128 : decode c_W_law 128 = .ok (.iload_n 3, 1) := by decide +kernel
theorem d_W_law_129 : decode c_W_law 129 = .ok (.iconst 1, 1) := by decide +kernel
theorem d_W_law_130 : decode c_W_law 130 = .ok (.iadd, 1) := by decide +kernel
theorem d_W_law_131 : decode c_W_law 131 = .ok (.iaload, 1) := by decide +kernel
theorem d_W_law_132 : decode c_W_law 132 = .ok (.aload_n 0, 1) := by decide +kernel
theorem d_W_law_133 : decode c_W_law 133 = .ok (.iload_n 3, 1) := by decide +kernel
theorem d_W_law_134 : decode c_W_law 134 = .ok (.iconst 2, 1) := by decide +kernel
theorem d_W_law_135 : decode c_W_law 135 = .ok (.iadd, 1) := by decide +kernel
theorem d_W_law_136 : decode c_W_law 136 = .ok (.iaload, 1) := by decide +kernel
theorem d_W_law_137 : decode c_W_law 137 = .ok (.invokevirtual 17, 3) := by decide +kernel
theorem d_W_law_140 : decode c_W_law 140 = .ok (.if_icmp .eq 550, 3) := by decide +kernel
theorem d_W_law_143 : decode c_W_law 143 = .ok (.iconst 0, 1) := by decide +kernel
theorem d_W_law_144 : decode c_W_law 144 = .ok (.ireturn, 1) := by decide +kernel
theorem d_W_law_145 : decode c_W_law 145 = .ok (.aload_n 1, 1) := by decide +kernel
theorem d_W_law_146 : decode c_W_law 146 = .ok (.aload_n 0, 1) := by decide +kernel
theorem d_W_law_147 : decode c_W_law 147 = .ok (.iload_n 3, 1) := by decide +kernel
theorem d_W_law_148 : decode c_W_law 148 = .ok (.iconst 1, 1) := by decide +kernel
theorem d_W_law_149 : decode c_W_law 149 = .ok (.iadd, 1) := by decide +kernel
theorem d_W_law_150 : decode c_W_law 150 = .ok (.iaload, 1) := by decide +kernel
theorem d_W_law_151 : decode c_W_law 151 = .ok (.aload_n 0, 1) := by decide +kernel
theorem d_W_law_152 : decode c_W_law 152 = .ok (.iload_n 3, 1) := by decide +kernel
theorem d_W_law_153 : decode c_W_law 153 = .ok (.iconst 2, 1) := by decide +kernel
theorem d_W_law_154 : decode c_W_law 154 = .ok (.iadd, 1) := by decide +kernel
theorem d_W_law_155 : decode c_W_law 155 = .ok (.iaload, 1) := by decide +kernel
theorem d_W_law_156 : decode c_W_law 156 = .ok (.aload_n 0, 1) := by decide +kernel
theorem d_W_law_157 : decode c_W_law 157 = .ok (.iload_n 3, 1) := by decide +kernel
theorem d_W_law_158 : decode c_W_law 158 = .ok (.iconst 3, 1) := by decide +kernel
theorem d_W_law_159 : decode c_W_law 159 = .ok (.iadd, 1) := by decide +kernel
theorem d_W_law_160 : decode c_W_law 160 = .ok (.iaload, 1) := by decide +kernel
theorem d_W_law_161 : decode c_W_law 161 = .ok (.aload_n 0, 1) := by decide +kernel
theorem d_W_law_162 : decode c_W_law 162 = .ok (.iload_n 3, 1) := by decide +kernel
theorem d_W_law_163 : decode c_W_law 163 = .ok (.iconst 4, 1) := by decide +kernel
theorem d_W_law_164 : decode c_W_law 164 = .ok (.iadd, 1) := by decide +kernel
theorem d_W_law_165 : decode c_W_law 165 = .ok (.iaload, 1) := by decide +kernel
theorem d_W_law_166 : decode c_W_law 166 = .ok (.invokevirtual 18, 3) := by decide +kernel
theorem d_W_law_169 : decode c_W_law 169 = .ok (.aload_n 2, 1) := by decide +kernel
theorem d_W_law_170 : decode c_W_law 170 = .ok (.aload_n 0, 1) := by decide +kernel
theorem d_W_law_171 : decode c_W_law 171 = .ok (.iload_n 3, 1) := by decide +kernel
theorem d_W_law_172 : decode c_W_law 172 = .ok (.iconst 1, 1) := by decide +kernel
theorem d_W_law_173 : decode c_W_law 173 = .ok (.iadd, 1) := by decide +kernel
theorem d_W_law_174 : decode c_W_law 174 = .ok (.iaload, 1) := by decide +kernel
theorem d_W_law_175 : decode c_W_law 175 = .ok (.aload_n 0, 1) := by decide +kernel
theorem d_W_law_176 : decode c_W_law 176 = .ok (.iload_n 3, 1) := by decide +kernel
theorem d_W_law_177 : decode c_W_law 177 = .ok (.iconst 2, 1) := by decide +kernel
theorem d_W_law_178 : decode c_W_law 178 = .ok (.iadd, 1) := by decide +kernel
theorem d_W_law_179 : decode c_W_law 179 = .ok (.iaload, 1) := by decide +kernel
theorem d_W_law_180 : decode c_W_law 180 = .ok (.aload_n 0, 1) := by decide +kernel
theorem d_W_law_181 : decode c_W_law 181 = .ok (.iload_n 3, 1) := by decide +kernel
theorem d_W_law_182 : decode c_W_law 182 = .ok (.iconst 3, 1) := by decide +kernel
theorem d_W_law_183 : decode c_W_law 183 = .ok (.iadd, 1) := by decide +kernel
theorem d_W_law_184 : decode c_W_law 184 = .ok (.iaload, 1) := by decide +kernel
theorem d_W_law_185 : decode c_W_law 185 = .ok (.aload_n 0, 1) := by decide +kernel
theorem d_W_law_186 : decode c_W_law 186 = .ok (.iload_n 3, 1) := by decide +kernel
theorem d_W_law_187 : decode c_W_law 187 = .ok (.iconst 4, 1) := by decide +kernel
theorem d_W_law_188 : decode c_W_law 188 = .ok (.iadd, 1) := by decide +kernel
theorem d_W_law_189 : decode c_W_law 189 = .ok (.iaload, 1) := by decide +kernel
theorem d_W_law_190 : decode c_W_law 190 = .ok (.invokevirtual 22, 3) := by decide +kernel
theorem d_W_law_193 : decode c_W_law 193 = .ok (.if_icmp .eq 497, 3) := by decide +kernel
theorem d_W_law_196 : decode c_W_law 196 = .ok (.iconst 0, 1) := by decide +kernel
theorem d_W_law_197 : decode c_W_law 197 = .ok (.ireturn, 1) := by decide +kernel
theorem d_W_law_198 : decode c_W_law 198 = .ok (.aload_n 1, 1) := by decide +kernel
theorem d_W_law_199 : decode c_W_law 199 = .ok (.aload_n 0, 1) := by decide +kernel
theorem d_W_law_200 : decode c_W_law 200 = .ok (.iload_n 3, 1) := by decide +kernel
theorem d_W_law_201 : decode c_W_law 201 = .ok (.iconst 1, 1) := by decide +kernel
theorem d_W_law_202 : decode c_W_law 202 = .ok (.iadd, 1) := by decide +kernel
theorem d_W_law_203 : decode c_W_law 203 = .ok (.iaload, 1) := by decide +kernel
theorem d_W_law_204 : decode c_W_law 204 = .ok (.aload_n 0, 1) := by decide +kernel
theorem d_W_law_205 : decode c_W_law 205 = .ok (.iload_n 3, 1) := by decide +kernel
theorem d_W_law_206 : decode c_W_law 206 = .ok (.iconst 2, 1) := by decide +kernel
theorem d_W_law_207 : decode c_W_law 207 = .ok (.iadd, 1) := by decide +kernel
theorem d_W_law_208 : decode c_W_law 208 = .ok (.iaload, 1) := by decide +kernel
theorem d_W_law_209 : decode c_W_law 209 = .ok (.invokevirtual 23, 3) := by decide +kernel
theorem d_W_law_212 : decode c_W_law 212 = .ok (.aload_n 2, 1) := by decide +kernel
theorem d_W_law_213 : decode c_W_law 213 = .ok (.aload_n 0, 1) := by decide +kernel
theorem d_W_law_214 : decode c_W_law 214 = .ok (.iload_n 3, 1) := by decide +kernel
theorem d_W_law_215 : decode c_W_law 215 = .ok (.iconst 1, 1) := by decide +kernel
theorem d_W_law_216 : decode c_W_law 216 = .ok (.iadd, 1) := by decide +kernel
theorem d_W_law_217 : decode c_W_law 217 = .ok (.iaload, 1) := by decide +kernel
theorem d_W_law_218 : decode c_W_law 218 = .ok (.aload_n 0, 1) := by decide +kernel
theorem d_W_law_219 : decode c_W_law 219 = .ok (.iload_n 3, 1) := by decide +kernel
theorem d_W_law_220 : decode c_W_law 220 = .ok (.iconst 2, 1) := by decide +kernel
theorem d_W_law_221 : decode c_W_law 221 = .ok (.iadd, 1) := by decide +kernel
theorem d_W_law_222 : decode c_W_law 222 = .ok (.iaload, 1) := by decide +kernel
theorem d_W_law_223 : decode c_W_law 223 = .ok (.invokevirtual 26, 3) := by decide +kernel
theorem d_W_law_226 : decode c_W_law 226 = .ok (.if_icmp .eq 464, 3) := by decide +kernel
theorem d_W_law_229 : decode c_W_law 229 = .ok (.iconst 0, 1) := by decide +kernel
theorem d_W_law_230 : decode c_W_law 230 = .ok (.ireturn, 1) := by decide +kernel
theorem d_W_law_231 : decode c_W_law 231 = .ok (.aload_n 1, 1) := by decide +kernel
theorem d_W_law_232 : decode c_W_law 232 = .ok (.aload_n 0, 1) := by decide +kernel
theorem d_W_law_233 : decode c_W_law 233 = .ok (.iload_n 3, 1) := by decide +kernel
theorem d_W_law_234 : decode c_W_law 234 = .ok (.iconst 1, 1) := by decide +kernel
theorem d_W_law_235 : decode c_W_law 235 = .ok (.iadd, 1) := by decide +kernel
theorem d_W_law_236 : decode c_W_law 236 = .ok (.iaload, 1) := by decide +kernel
theorem d_W_law_237 : decode c_W_law 237 = .ok (.aload_n 0, 1) := by decide +kernel
theorem d_W_law_238 : decode c_W_law 238 = .ok (.iload_n 3, 1) := by decide +kernel
theorem d_W_law_239 : decode c_W_law 239 = .ok (.iconst 2, 1) := by decide +kernel
theorem d_W_law_240 : decode c_W_law 240 = .ok (.iadd, 1) := by decide +kernel
theorem d_W_law_241 : decode c_W_law 241 = .ok (.iaload, 1) := by decide +kernel
theorem d_W_law_242 : decode c_W_law 242 = .ok (.i2l, 1) := by decide +kernel
theorem d_W_law_243 : decode c_W_law 243 = .ok (.bipush 32, 2) := by decide +kernel
theorem d_W_law_245 : decode c_W_law 245 = .ok (.lshl, 1) := by decide +kernel
theorem d_W_law_246 : decode c_W_law 246 = .ok (.aload_n 0, 1) := by decide +kernel
theorem d_W_law_247 : decode c_W_law 247 = .ok (.iload_n 3, 1) := by decide +kernel
theorem d_W_law_248 : decode c_W_law 248 = .ok (.iconst 3, 1) := by decide +kernel
theorem d_W_law_249 : decode c_W_law 249 = .ok (.iadd, 1) := by decide +kernel
theorem d_W_law_250 : decode c_W_law 250 = .ok (.iaload, 1) := by decide +kernel
theorem d_W_law_251 : decode c_W_law 251 = .ok (.i2l, 1) := by decide +kernel
theorem d_W_law_252 : decode c_W_law 252 = .ok (.ldc2_w 27, 3) := by decide +kernel
theorem d_W_law_255 : decode c_W_law 255 = .ok (.land, 1) := by decide +kernel
theorem d_W_law_256 : decode c_W_law 256 = .ok (.lor, 1) := by decide +kernel
theorem d_W_law_257 : decode c_W_law 257 = .ok (.invokevirtual 29, 3) := by decide +kernel
theorem d_W_law_260 : decode c_W_law 260 = .ok (.aload_n 2, 1) := by decide +kernel
theorem d_W_law_261 : decode c_W_law 261 = .ok (.aload_n 0, 1) := by decide +kernel
theorem d_W_law_262 : decode c_W_law 262 = .ok (.iload_n 3, 1) := by decide +kernel
theorem d_W_law_263 : decode c_W_law 263 = .ok (.iconst 1, 1) := by decide +kernel
theorem d_W_law_264 : decode c_W_law 264 = .ok (.iadd, 1) := by decide +kernel
theorem d_W_law_265 : decode c_W_law 265 = .ok (.iaload, 1) := by decide +kernel
theorem d_W_law_266 : decode c_W_law 266 = .ok (.aload_n 0, 1) := by decide +kernel
theorem d_W_law_267 : decode c_W_law 267 = .ok (.iload_n 3, 1) := by decide +kernel
theorem d_W_law_268 : decode c_W_law 268 = .ok (.iconst 2, 1) := by decide +kernel
theorem d_W_law_269 : decode c_W_law 269 = .ok (.iadd, 1) := by decide +kernel
theorem d_W_law_270 : decode c_W_law 270 = .ok (.iaload, 1) := by decide +kernel
theorem d_W_law_271 : decode c_W_law 271 = .ok (.i2l, 1) := by decide +kernel
theorem d_W_law_272 : decode c_W_law 272 = .ok (.bipush 32, 2) := by decide +kernel
theorem d_W_law_274 : decode c_W_law 274 = .ok (.lshl, 1) := by decide +kernel
theorem d_W_law_275 : decode c_W_law 275 = .ok (.aload_n 0, 1) := by decide +kernel
theorem d_W_law_276 : decode c_W_law 276 = .ok (.iload_n 3, 1) := by decide +kernel
theorem d_W_law_277 : decode c_W_law 277 = .ok (.iconst 3, 1) := by decide +kernel
theorem d_W_law_278 : decode c_W_law 278 = .ok (.iadd, 1) := by decide +kernel
theorem d_W_law_279 : decode c_W_law 279 = .ok (.iaload, 1) := by decide +kernel
theorem d_W_law_280 : decode c_W_law 280 = .ok (.i2l, 1) := by decide +kernel
theorem d_W_law_281 : decode c_W_law 281 = .ok (.ldc2_w 27, 3) := by decide +kernel
theorem d_W_law_284 : decode c_W_law 284 = .ok (.land, 1) := by decide +kernel
theorem d_W_law_285 : decode c_W_law 285 = .ok (.lor, 1) := by decide +kernel
theorem d_W_law_286 : decode c_W_law 286 = .ok (.invokevirtual 33, 3) := by decide +kernel
theorem d_W_law_289 : decode c_W_law 289 = .ok (.if_icmp .eq 401, 3) := by decide +kernel
theorem d_W_law_292 : decode c_W_law 292 = .ok (.iconst 0, 1) := by decide +kernel
theorem d_W_law_293 : decode c_W_law 293 = .ok (.ireturn, 1) := by decide +kernel
theorem d_W_law_294 : decode c_W_law 294 = .ok (.aload_n 1, 1) := by decide +kernel
theorem d_W_law_295 : decode c_W_law 295 = .ok (.invokevirtual 34, 3) := by decide +kernel
theorem d_W_law_298 : decode c_W_law 298 = .ok (.aload_n 2, 1) := by decide +kernel
theorem d_W_law_299 : decode c_W_law 299 = .ok (.invokevirtual 38, 3) := by decide +kernel
theorem d_W_law_302 : decode c_W_law 302 = .ok (.if_icmp .eq 388, 3) := by decide +kernel
theorem d_W_law_305 : decode c_W_law 305 = .ok (.iconst 0, 1) := by decide +kernel
theorem d_W_law_306 : decode c_W_law 306 = .ok (.ireturn, 1) := by decide +kernel
theorem d_W_law_307 : decode c_W_law 307 = .ok (.aload_n 1, 1) := by decide +kernel
theorem d_W_law_308 : decode c_W_law 308 = .ok (.aload_n 0, 1) := by decide +kernel
theorem d_W_law_309 : decode c_W_law 309 = .ok (.iload_n 3, 1) := by decide +kernel
theorem d_W_law_310 : decode c_W_law 310 = .ok (.iconst 1, 1) := by decide +kernel
theorem d_W_law_311 : decode c_W_law 311 = .ok (.iadd, 1) := by decide +kernel
theorem d_W_law_312 : decode c_W_law 312 = .ok (.iaload, 1) := by decide +kernel
theorem d_W_law_313 : decode c_W_law 313 = .ok (.invokevirtual 39, 3) := by decide +kernel
theorem d_W_law_316 : decode c_W_law 316 = .ok (.aload_n 2, 1) := by decide +kernel
theorem d_W_law_317 : decode c_W_law 317 = .ok (.aload_n 0, 1) := by decide +kernel
theorem d_W_law_318 : decode c_W_law 318 = .ok (.iload_n 3, 1) := by decide +kernel
theorem d_W_law_319 : decode c_W_law 319 = .ok (.iconst 1, 1) := by decide +kernel
theorem d_W_law_320 : decode c_W_law 320 = .ok (.iadd, 1) := by decide +kernel
theorem d_W_law_321 : decode c_W_law 321 = .ok (.iaload, 1) := by decide +kernel
theorem d_W_law_322 : decode c_W_law 322 = .ok (.invokevirtual 43, 3) := by decide +kernel
theorem d_W_law_325 : decode c_W_law 325 = .ok (.if_icmp .eq 365, 3) := by decide +kernel
theorem d_W_law_328 : decode c_W_law 328 = .ok (.iconst 0, 1) := by decide +kernel
theorem d_W_law_329 : decode c_W_law 329 = .ok (.ireturn, 1) := by decide +kernel
theorem d_W_law_330 : decode c_W_law 330 = .ok (.aload_n 1, 1) := by decide +kernel
theorem d_W_law_331 : decode c_W_law 331 = .ok (.aload_n 0, 1) := by decide +kernel
theorem d_W_law_332 : decode c_W_law 332 = .ok (.iload_n 3, 1) := by decide +kernel
theorem d_W_law_333 : decode c_W_law 333 = .ok (.iconst 1, 1) := by decide +kernel
theorem d_W_law_334 : decode c_W_law 334 = .ok (.iadd, 1) := by decide +kernel
theorem d_W_law_335 : decode c_W_law 335 = .ok (.iaload, 1) := by decide +kernel
theorem d_W_law_336 : decode c_W_law 336 = .ok (.invokevirtual 44, 3) := by decide +kernel
theorem d_W_law_339 : decode c_W_law 339 = .ok (.aload_n 2, 1) := by decide +kernel
theorem d_W_law_340 : decode c_W_law 340 = .ok (.aload_n 0, 1) := by decide +kernel
theorem d_W_law_341 : decode c_W_law 341 = .ok (.iload_n 3, 1) := by decide +kernel
theorem d_W_law_342 : decode c_W_law 342 = .ok (.iconst 1, 1) := by decide +kernel
theorem d_W_law_343 : decode c_W_law 343 = .ok (.iadd, 1) := by decide +kernel
theorem d_W_law_344 : decode c_W_law 344 = .ok (.iaload, 1) := by decide +kernel
theorem d_W_law_345 : decode c_W_law 345 = .ok (.invokevirtual 47, 3) := by decide +kernel
theorem d_W_law_348 : decode c_W_law 348 = .ok (.if_icmp .eq 342, 3) := by decide +kernel
theorem d_W_law_351 : decode c_W_law 351 = .ok (.iconst 0, 1) := by decide +kernel
theorem d_W_law_352 : decode c_W_law 352 = .ok (.ireturn, 1) := by decide +kernel
theorem d_W_law_353 : decode c_W_law 353 = .ok (.aload_n 1, 1) := by decide +kernel
theorem d_W_law_354 : decode c_W_law 354 = .ok (.aload_n 0, 1) := by decide +kernel
theorem d_W_law_355 : decode c_W_law 355 = .ok (.iload_n 3, 1) := by decide +kernel
theorem d_W_law_356 : decode c_W_law 356 = .ok (.iconst 1, 1) := by decide +kernel
theorem d_W_law_357 : decode c_W_law 357 = .ok (.iadd, 1) := by decide +kernel
theorem d_W_law_358 : decode c_W_law 358 = .ok (.iaload, 1) := by decide +kernel
theorem d_W_law_359 : decode c_W_law 359 = .ok (.aload_n 0, 1) := by decide +kernel
theorem d_W_law_360 : decode c_W_law 360 = .ok (.iload_n 3, 1) := by decide +kernel
theorem d_W_law_361 : decode c_W_law 361 = .ok (.iconst 2, 1) := by decide +kernel
theorem d_W_law_362 : decode c_W_law 362 = .ok (.iadd, 1) := by decide +kernel
theorem d_W_law_363 : decode c_W_law 363 = .ok (.iaload, 1) := by decide +kernel
theorem d_W_law_364 : decode c_W_law 364 = .ok (.invokevirtual 48, 3) := by decide +kernel
theorem d_W_law_367 : decode c_W_law 367 = .ok (.aload_n 2, 1) := by decide +kernel
theorem d_W_law_368 : decode c_W_law 368 = .ok (.aload_n 0, 1) := by decide +kernel
theorem d_W_law_369 : decode c_W_law 369 = .ok (.iload_n 3, 1) := by decide +kernel
theorem d_W_law_370 : decode c_W_law 370 = .ok (.iconst 1, 1) := by decide +kernel
theorem d_W_law_371 : decode c_W_law 371 = .ok (.iadd, 1) := by decide +kernel
theorem d_W_law_372 : decode c_W_law 372 = .ok (.iaload, 1) := by decide +kernel
theorem d_W_law_373 : decode c_W_law 373 = .ok (.aload_n 0, 1) := by decide +kernel
theorem d_W_law_374 : decode c_W_law 374 = .ok (.iload_n 3, 1) := by decide +kernel
theorem d_W_law_375 : decode c_W_law 375 = .ok (.iconst 2, 1) := by decide +kernel
theorem d_W_law_376 : decode c_W_law 376 = .ok (.iadd, 1) := by decide +kernel
theorem d_W_law_377 : decode c_W_law 377 = .ok (.iaload, 1) := by decide +kernel
theorem d_W_law_378 : decode c_W_law 378 = .ok (.invokevirtual 51, 3) := by decide +kernel
theorem d_W_law_381 : decode c_W_law 381 = .ok (.if_icmp .eq 309, 3) := by decide +kernel
theorem d_W_law_384 : decode c_W_law 384 = .ok (.iconst 0, 1) := by decide +kernel
theorem d_W_law_385 : decode c_W_law 385 = .ok (.ireturn, 1) := by decide +kernel
