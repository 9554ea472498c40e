/-! the law's loop, over a relation R of states (and how many calls were done) -/
theorem d_law_18 : decode (rm_code rx_lawM) 18 = .ok (.iload_n 3, 1) := by decide +kernel
theorem d_law_19 : decode (rm_code rx_lawM) 19 = .ok (.aload_n 0, 1) := by decide +kernel
theorem d_law_20 : decode (rm_code rx_lawM) 20 = .ok (.arraylength, 1) := by decide +kernel
theorem d_law_21 : decode (rm_code rx_lawM) 21 = .ok (.bipush (6), 2) := by decide +kernel
theorem d_law_23 : decode (rm_code rx_lawM) 23 = .ok (.isub, 1) := by decide +kernel
theorem d_law_24 : decode (rm_code rx_lawM) 24 = .ok (.if_icmp .gt (456), 3) := by decide +kernel
theorem d_law_27 : decode (rm_code rx_lawM) 27 = .ok (.aload_n 0, 1) := by decide +kernel
theorem d_law_28 : decode (rm_code rx_lawM) 28 = .ok (.iload_n 3, 1) := by decide +kernel
theorem d_law_29 : decode (rm_code rx_lawM) 29 = .ok (.iaload, 1) := by decide +kernel
theorem d_law_30 : decode (rm_code rx_lawM) 30 = .ok (.bipush (15), 2) := by decide +kernel
theorem d_law_32 : decode (rm_code rx_lawM) 32 = .ok (.iand, 1) := by decide +kernel
theorem d_law_33 : decode (rm_code rx_lawM) 33 = .ok (.tableswitch (441) (0) (11) #[(63), (126), (159), (192), (215), (248), (271), (294), (327), (370), (407), (418)], 63) := by decide +kernel
theorem d_law_96 : decode (rm_code rx_lawM) 96 = .ok (.aload_n 1, 1) := by decide +kernel
theorem d_law_97 : decode (rm_code rx_lawM) 97 = .ok (.aload_n 0, 1) := by decide +kernel
theorem d_law_98 : decode (rm_code rx_lawM) 98 = .ok (.iload_n 3, 1) := by decide +kernel
theorem d_law_99 : decode (rm_code rx_lawM) 99 = .ok (.iconst 1, 1) := by decide +kernel
theorem d_law_100 : decode (rm_code rx_lawM) 100 = .ok (.iadd, 1) := by decide +kernel
theorem d_law_101 : decode (rm_code rx_lawM) 101 = .ok (.iaload, 1) := by decide +kernel
theorem d_law_102 : decode (rm_code rx_lawM) 102 = .ok (.aload_n 0, 1) := by decide +kernel
theorem d_law_103 : decode (rm_code rx_lawM) 103 = .ok (.iload_n 3, 1) := by decide +kernel
theorem d_law_104 : decode (rm_code rx_lawM) 104 = .ok (.iconst 2, 1) := by decide +kernel
theorem d_law_105 : decode (rm_code rx_lawM) 105 = .ok (.iadd, 1) := by decide +kernel
theorem d_law_106 : decode (rm_code rx_lawM) 106 = .ok (.iaload, 1) := by decide +kernel
theorem d_law_107 : decode (rm_code rx_lawM) 107 = .ok (.aload_n 0, 1) := by decide +kernel
theorem d_law_108 : decode (rm_code rx_lawM) 108 = .ok (.iload_n 3, 1) := by decide +kernel
theorem d_law_109 : decode (rm_code rx_lawM) 109 = .ok (.iconst 3, 1) := by decide +kernel
theorem d_law_110 : decode (rm_code rx_lawM) 110 = .ok (.iadd, 1) := by decide +kernel
theorem d_law_111 : decode (rm_code rx_lawM) 111 = .ok (.iaload, 1) := by decide +kernel
theorem d_law_112 : decode (rm_code rx_lawM) 112 = .ok (.aload_n 0, 1) := by decide +kernel
theorem d_law_113 : decode (rm_code rx_lawM) 113 = .ok (.iload_n 3, 1) := by decide +kernel
theorem d_law_114 : decode (rm_code rx_lawM) 114 = .ok (.iconst 4, 1) := by decide +kernel
theorem d_law_115 : decode (rm_code rx_lawM) 115 = .ok (.iadd, 1) := by decide +kernel
theorem d_law_116 : decode (rm_code rx_lawM) 116 = .ok (.iaload, 1) := by decide +kernel
theorem d_law_117 : decode (rm_code rx_lawM) 117 = .ok (.aload_n 0, 1) := by decide +kernel
theorem d_law_118 : decode (rm_code rx_lawM) 118 = .ok (.iload_n 3, 1) := by decide +kernel
theorem d_law_119 : decode (rm_code rx_lawM) 119 = .ok (.iconst 5, 1) := by decide +kernel
theorem d_law_120 : decode (rm_code rx_lawM) 120 = .ok (.iadd, 1) := by decide +kernel
theorem d_law_121 : decode (rm_code rx_lawM) 121 = .ok (.iaload, 1) := by decide +kernel
theorem d_law_122 : decode (rm_code rx_lawM) 122 = .ok (.invokevirtual 13, 3) := by decide +kernel
theorem d_law_125 : decode (rm_code rx_lawM) 125 = .ok (.aload_n 2, 1) := by decide +kernel
theorem d_law_126 : decode (rm_code rx_lawM) 126 = .ok (.aload_n 0, 1) := by decide +kernel
theorem d_law_127 : decode (rm_code rx_lawM) 127 = .ok (.iload_n 3, 1) := by decide +kernel
theorem d_law_128 : decode (rm_code rx_lawM) 128 = .ok (.iconst 1, 1) := by decide +kernel
theorem d_law_129 : decode (rm_code rx_lawM) 129 = .ok (.iadd, 1) := by decide +kernel
theorem d_law_130 : decode (rm_code rx_lawM) 130 = .ok (.iaload, 1) := by decide +kernel
theorem d_law_131 : decode (rm_code rx_lawM) 131 = .ok (.aload_n 0, 1) := by decide +kernel
theorem d_law_132 : decode (rm_code rx_lawM) 132 = .ok (.iload_n 3, 1) := by decide +kernel
theorem d_law_133 : decode (rm_code rx_lawM) 133 = .ok (.iconst 2, 1) := by decide +kernel
theorem d_law_134 : decode (rm_code rx_lawM) 134 = .ok (.iadd, 1) := by decide +kernel
theorem d_law_135 : decode (rm_code rx_lawM) 135 = .ok (.iaload, 1) := by decide +kernel
theorem d_law_136 : decode (rm_code rx_lawM) 136 = .ok (.aload_n 0, 1) := by decide +kernel
theorem d_law_137 : decode (rm_code rx_lawM) 137 = .ok (.iload_n 3, 1) := by decide +kernel
theorem d_law_138 : decode (rm_code rx_lawM) 138 = .ok (.iconst 3, 1) := by decide +kernel
theorem d_law_139 : decode (rm_code rx_lawM) 139 = .ok (.iadd, 1) := by decide +kernel
theorem d_law_140 : decode (rm_code rx_lawM) 140 = .ok (.iaload, 1) := by decide +kernel
theorem d_law_141 : decode (rm_code rx_lawM) 141 = .ok (.aload_n 0, 1) := by decide +kernel
theorem d_law_142 : decode (rm_code rx_lawM) 142 = .ok (.iload_n 3, 1) := by decide +kernel
theorem d_law_143 : decode (rm_code rx_lawM) 143 = .ok (.iconst 4, 1) := by decide +kernel
theorem d_law_144 : decode (rm_code rx_lawM) 144 = .ok (.iadd, 1) := by decide +kernel
theorem d_law_145 : decode (rm_code rx_lawM) 145 = .ok (.iaload, 1) := by decide +kernel
theorem d_law_146 : decode (rm_code rx_lawM) 146 = .ok (.aload_n 0, 1) := by decide +kernel
theorem d_law_147 : decode (rm_code rx_lawM) 147 = .ok (.iload_n 3, 1) := by decide +kernel
theorem d_law_148 : decode (rm_code rx_lawM) 148 = .ok (.iconst 5, 1) := by decide +kernel
theorem d_law_149 : decode (rm_code rx_lawM) 149 = .ok (.iadd, 1) := by decide +kernel
theorem d_law_150 : decode (rm_code rx_lawM) 150 = .ok (.iaload, 1) := by decide +kernel
theorem d_law_151 : decode (rm_code rx_lawM) 151 = .ok (.invokevirtual 17, 3) := by decide +kernel
theorem d_law_154 : decode (rm_code rx_lawM) 154 = .ok (.if_icmp .eq (320), 3) := by decide +kernel
theorem d_law_157 : decode (rm_code rx_lawM) 157 = .ok (.iconst 0, 1) := by decide +kernel
theorem d_law_158 : decode (rm_code rx_lawM) 158 = .ok (.ireturn, 1) := by decide +kernel
theorem d_law_159 : decode (rm_code rx_lawM) 159 = .ok (.aload_n 1, 1) := by decide +kernel
theorem d_law_160 : decode (rm_code rx_lawM) 160 = .ok (.aload_n 0, 1) := by decide +kernel
theorem d_law_161 : decode (rm_code rx_lawM) 161 = .ok (.iload_n 3, 1) := by decide +kernel
theorem d_law_162 : decode (rm_code rx_lawM) 162 = .ok (.iconst 1, 1) := by decide +kernel
theorem d_law_163 : decode (rm_code rx_lawM) 163 = .ok (.iadd, 1) := by decide +kernel
theorem d_law_164 : decode (rm_code rx_lawM) 164 = .ok (.iaload, 1) := by decide +kernel
theorem d_law_165 : decode (rm_code rx_lawM) 165 = .ok (.aload_n 0, 1) := by decide +kernel
theorem d_law_166 : decode (rm_code rx_lawM) 166 = .ok (.iload_n 3, 1) := by decide +kernel
theorem d_law_167 : decode (rm_code rx_lawM) 167 = .ok (.iconst 2, 1) := by decide +kernel
theorem d_law_168 : decode (rm_code rx_lawM) 168 = .ok (.iadd, 1) := by decide +kernel
theorem d_law_169 : decode (rm_code rx_lawM) 169 = .ok (.iaload, 1) := by decide +kernel
theorem d_law_170 : decode (rm_code rx_lawM) 170 = .ok (.invokevirtual 18, 3) := by decide +kernel
theorem d_law_173 : decode (rm_code rx_lawM) 173 = .ok (.aload_n 2, 1) := by decide +kernel
theorem d_law_174 : decode (rm_code rx_lawM) 174 = .ok (.aload_n 0, 1) := by decide +kernel
theorem d_law_175 : decode (rm_code rx_lawM) 175 = .ok (.iload_n 3, 1) := by decide +kernel
theorem d_law_176 : decode (rm_code rx_lawM) 176 = .ok (.iconst 1, 1) := by decide +kernel
theorem d_law_177 : decode (rm_code rx_lawM) 177 = .ok (.iadd, 1) := by decide +kernel
theorem d_law_178 : decode (rm_code rx_lawM) 178 = .ok (.iaload, 1) := by decide +kernel
theorem d_law_179 : decode (rm_code rx_lawM) 179 = .ok (.aload_n 0, 1) := by decide +kernel
theorem d_law_180 : decode (rm_code rx_lawM) 180 = .ok (.iload_n 3, 1) := by decide +kernel
theorem d_law_181 : decode (rm_code rx_lawM) 181 = .ok (.iconst 2, 1) := by decide +kernel
theorem d_law_182 : decode (rm_code rx_lawM) 182 = .ok (.iadd, 1) := by decide +kernel
theorem d_law_183 : decode (rm_code rx_lawM) 183 = .ok (.iaload, 1) := by decide +kernel
theorem d_law_184 : decode (rm_code rx_lawM) 184 = .ok (.invokevirtual 22, 3) := by decide +kernel
theorem d_law_187 : decode (rm_code rx_lawM) 187 = .ok (.if_icmp .eq (287), 3) := by decide +kernel
theorem d_law_190 : decode (rm_code rx_lawM) 190 = .ok (.iconst 0, 1) := by decide +kernel
theorem d_law_191 : decode (rm_code rx_lawM) 191 = .ok (.ireturn, 1) := by decide +kernel
theorem d_law_192 : decode (rm_code rx_lawM) 192 = .ok (.aload_n 1, 1) := by decide +kernel
theorem d_law_193 : decode (rm_code rx_lawM) 193 = .ok (.aload_n 0, 1) := by decide +kernel
theorem d_law_194 : decode (rm_code rx_lawM) 194 = .ok (.iload_n 3, 1) := by decide +kernel
theorem d_law_195 : decode (rm_code rx_lawM) 195 = .ok (.iconst 1, 1) := by decide +kernel
theorem d_law_196 : decode (rm_code rx_lawM) 196 = .ok (.iadd, 1) := by decide +kernel
theorem d_law_197 : decode (rm_code rx_lawM) 197 = .ok (.iaload, 1) := by decide +kernel
theorem d_law_198 : decode (rm_code rx_lawM) 198 = .ok (.aload_n 0, 1) := by decide +kernel
theorem d_law_199 : decode (rm_code rx_lawM) 199 = .ok (.iload_n 3, 1) := by decide +kernel
theorem d_law_200 : decode (rm_code rx_lawM) 200 = .ok (.iconst 2, 1) := by decide +kernel
theorem d_law_201 : decode (rm_code rx_lawM) 201 = .ok (.iadd, 1) := by decide +kernel
theorem d_law_202 : decode (rm_code rx_lawM) 202 = .ok (.iaload, 1) := by decide +kernel
theorem d_law_203 : decode (rm_code rx_lawM) 203 = .ok (.invokevirtual 23, 3) := by decide +kernel
theorem d_law_206 : decode (rm_code rx_lawM) 206 = .ok (.aload_n 2, 1) := by decide +kernel
theorem d_law_207 : decode (rm_code rx_lawM) 207 = .ok (.aload_n 0, 1) := by decide +kernel
theorem d_law_208 : decode (rm_code rx_lawM) 208 = .ok (.iload_n 3, 1) := by decide +kernel
theorem d_law_209 : decode (rm_code rx_lawM) 209 = .ok (.iconst 1, 1) := by decide +kernel
theorem d_law_210 : decode (rm_code rx_lawM) 210 = .ok (.iadd, 1) := by decide +kernel
theorem d_law_211 : decode (rm_code rx_lawM) 211 = .ok (.iaload, 1) := by decide +kernel
theorem d_law_212 : decode (rm_code rx_lawM) 212 = .ok (.aload_n 0, 1) := by decide +kernel
theorem d_law_213 : decode (rm_code rx_lawM) 213 = .ok (.iload_n 3, 1) := by decide +kernel
theorem d_law_214 : decode (rm_code rx_lawM) 214 = .ok (.iconst 2, 1) := by decide +kernel
theorem d_law_215 : decode (rm_code rx_lawM) 215 = .ok (.iadd, 1) := by decide +kernel
theorem d_law_216 : decode (rm_code rx_lawM) 216 = .ok (.iaload, 1) := by decide +kernel
theorem d_law_217 : decode (rm_code rx_lawM) 217 = .ok (.invokevirtual 26, 3) := by decide +kernel
theorem d_law_220 : decode (rm_code rx_lawM) 220 = .ok (.if_icmp .eq (254), 3) := by decide +kernel
theorem d_law_223 : decode (rm_code rx_lawM) 223 = .ok (.iconst 0, 1) := by decide +kernel
theorem d_law_224 : decode (rm_code rx_lawM) 224 = .ok (.ireturn, 1) := by decide +kernel
theorem d_law_225 : decode (rm_code rx_lawM) 225 = .ok (.aload_n 1, 1) := by decide +kernel
theorem d_law_226 : decode (rm_code rx_lawM) 226 = .ok (.aload_n 0, 1) := by decide +kernel
theorem d_law_227 : decode (rm_code rx_lawM) 227 = .ok (.iload_n 3, 1) := by decide +kernel
theorem d_law_228 : decode (rm_code rx_lawM) 228 = .ok (.iconst 1, 1) := by decide +kernel
theorem d_law_229 : decode (rm_code rx_lawM) 229 = .ok (.iadd, 1) := by decide +kernel
theorem d_law_230 : decode (rm_code rx_lawM) 230 = .ok (.iaload, 1) := by decide +kernel
theorem d_law_231 : decode (rm_code rx_lawM) 231 = .ok (.invokevirtual 27, 3) := by decide +kernel
theorem d_law_234 : decode (rm_code rx_lawM) 234 = .ok (.aload_n 2, 1) := by decide +kernel
theorem d_law_235 : decode (rm_code rx_lawM) 235 = .ok (.aload_n 0, 1) := by decide +kernel
theorem d_law_236 : decode (rm_code rx_lawM) 236 = .ok (.iload_n 3, 1) := by decide +kernel
theorem d_law_237 : decode (rm_code rx_lawM) 237 = .ok (.iconst 1, 1) := by decide +kernel
theorem d_law_238 : decode (rm_code rx_lawM) 238 = .ok (.iadd, 1) := by decide +kernel
theorem d_law_239 : decode (rm_code rx_lawM) 239 = .ok (.iaload, 1) := by decide +kernel
theorem d_law_240 : decode (rm_code rx_lawM) 240 = .ok (.invokevirtual 31, 3) := by decide +kernel
theorem d_law_243 : decode (rm_code rx_lawM) 243 = .ok (.if_icmp .eq (231), 3) := by decide +kernel
theorem d_law_246 : decode (rm_code rx_lawM) 246 = .ok (.iconst 0, 1) := by decide +kernel
theorem d_law_247 : decode (rm_code rx_lawM) 247 = .ok (.ireturn, 1) := by decide +kernel
theorem d_law_248 : decode (rm_code rx_lawM) 248 = .ok (.aload_n 1, 1) := by decide +kernel
theorem d_law_249 : decode (rm_code rx_lawM) 249 = .ok (.aload_n 0, 1) := by decide +kernel
theorem d_law_250 : decode (rm_code rx_lawM) 250 = .ok (.iload_n 3, 1) := by decide +kernel
theorem d_law_251 : decode (rm_code rx_lawM) 251 = .ok (.iconst 1, 1) := by decide +kernel
theorem d_law_252 : decode (rm_code rx_lawM) 252 = .ok (.iadd, 1) := by decide +kernel
theorem d_law_253 : decode (rm_code rx_lawM) 253 = .ok (.iaload, 1) := by decide +kernel
theorem d_law_254 : decode (rm_code rx_lawM) 254 = .ok (.aload_n 0, 1) := by decide +kernel
theorem d_law_255 : decode (rm_code rx_lawM) 255 = .ok (.iload_n 3, 1) := by decide +kernel
theorem d_law_256 : decode (rm_code rx_lawM) 256 = .ok (.iconst 2, 1) := by decide +kernel
theorem d_law_257 : decode (rm_code rx_lawM) 257 = .ok (.iadd, 1) := by decide +kernel
theorem d_law_258 : decode (rm_code rx_lawM) 258 = .ok (.iaload, 1) := by decide +kernel
theorem d_law_259 : decode (rm_code rx_lawM) 259 = .ok (.invokevirtual 32, 3) := by decide +kernel
theorem d_law_262 : decode (rm_code rx_lawM) 262 = .ok (.aload_n 2, 1) := by decide +kernel
theorem d_law_263 : decode (rm_code rx_lawM) 263 = .ok (.aload_n 0, 1) := by decide +kernel
theorem d_law_264 : decode (rm_code rx_lawM) 264 = .ok (.iload_n 3, 1) := by decide +kernel
theorem d_law_265 : decode (rm_code rx_lawM) 265 = .ok (.iconst 1, 1) := by decide +kernel
theorem d_law_266 : decode (rm_code rx_lawM) 266 = .ok (.iadd, 1) := by decide +kernel
theorem d_law_267 : decode (rm_code rx_lawM) 267 = .ok (.iaload, 1) := by decide +kernel
theorem d_law_268 : decode (rm_code rx_lawM) 268 = .ok (.aload_n 0, 1) := by decide +kernel
theorem d_law_269 : decode (rm_code rx_lawM) 269 = .ok (.iload_n 3, 1) := by decide +kernel
theorem d_law_270 : decode (rm_code rx_lawM) 270 = .ok (.iconst 2, 1) := by decide +kernel
theorem d_law_271 : decode (rm_code rx_lawM) 271 = .ok (.iadd, 1) := by decide +kernel
theorem d_law_272 : decode (rm_code rx_lawM) 272 = .ok (.iaload, 1) := by decide +kernel
theorem d_law_273 : decode (rm_code rx_lawM) 273 = .ok (.invokevirtual 35, 3) := by decide +kernel
theorem d_law_276 : decode (rm_code rx_lawM) 276 = .ok (.if_icmp .eq (198), 3) := by decide +kernel
theorem d_law_279 : decode (rm_code rx_lawM) 279 = .ok (.iconst 0, 1) := by decide +kernel
theorem d_law_280 : decode (rm_code rx_lawM) 280 = .ok (.ireturn, 1) := by decide +kernel
theorem d_law_281 : decode (rm_code rx_lawM) 281 = .ok (.aload_n 1, 1) := by decide +kernel
theorem d_law_282 : decode (rm_code rx_lawM) 282 = .ok (.aload_n 0, 1) := by decide +kernel
theorem d_law_283 : decode (rm_code rx_lawM) 283 = .ok (.iload_n 3, 1) := by decide +kernel
theorem d_law_284 : decode (rm_code rx_lawM) 284 = .ok (.iconst 1, 1) := by decide +kernel
theorem d_law_285 : decode (rm_code rx_lawM) 285 = .ok (.iadd, 1) := by decide +kernel
theorem d_law_286 : decode (rm_code rx_lawM) 286 = .ok (.iaload, 1) := by decide +kernel
theorem d_law_287 : decode (rm_code rx_lawM) 287 = .ok (.invokevirtual 36, 3) := by decide +kernel
theorem d_law_290 : decode (rm_code rx_lawM) 290 = .ok (.aload_n 2, 1) := by decide +kernel
theorem d_law_291 : decode (rm_code rx_lawM) 291 = .ok (.aload_n 0, 1) := by decide +kernel
theorem d_law_292 : decode (rm_code rx_lawM) 292 = .ok (.iload_n 3, 1) := by decide +kernel
theorem d_law_293 : decode (rm_code rx_lawM) 293 = .ok (.iconst 1, 1) := by decide +kernel
theorem d_law_294 : decode (rm_code rx_lawM) 294 = .ok (.iadd, 1) := by decide +kernel
theorem d_law_295 : decode (rm_code rx_lawM) 295 = .ok (.iaload, 1) := by decide +kernel
theorem d_law_296 : decode (rm_code rx_lawM) 296 = .ok (.invokevirtual 39, 3) := by decide +kernel
theorem d_law_299 : decode (rm_code rx_lawM) 299 = .ok (.if_icmp .eq (175), 3) := by decide +kernel
theorem d_law_302 : decode (rm_code rx_lawM) 302 = .ok (.iconst 0, 1) := by decide +kernel
theorem d_law_303 : decode (rm_code rx_lawM) 303 = .ok (.ireturn, 1) := by decide +kernel
theorem d_law_304 : decode (rm_code rx_lawM) 304 = .ok (.aload_n 1, 1) := by decide +kernel
theorem d_law_305 : decode (rm_code rx_lawM) 305 = .ok (.aload_n 0, 1) := by decide +kernel
theorem d_law_306 : decode (rm_code rx_lawM) 306 = .ok (.iload_n 3, 1) := by decide +kernel
theorem d_law_307 : decode (rm_code rx_lawM) 307 = .ok (.iconst 1, 1) := by decide +kernel
theorem d_law_308 : decode (rm_code rx_lawM) 308 = .ok (.iadd, 1) := by decide +kernel
theorem d_law_309 : decode (rm_code rx_lawM) 309 = .ok (.iaload, 1) := by decide +kernel
theorem d_law_310 : decode (rm_code rx_lawM) 310 = .ok (.invokevirtual 40, 3) := by decide +kernel
theorem d_law_313 : decode (rm_code rx_lawM) 313 = .ok (.aload_n 2, 1) := by decide +kernel
theorem d_law_314 : decode (rm_code rx_lawM) 314 = .ok (.aload_n 0, 1) := by decide +kernel
theorem d_law_315 : decode (rm_code rx_lawM) 315 = .ok (.iload_n 3, 1) := by decide +kernel
theorem d_law_316 : decode (rm_code rx_lawM) 316 = .ok (.iconst 1, 1) := by decide +kernel
theorem d_law_317 : decode (rm_code rx_lawM) 317 = .ok (.iadd, 1) := by decide +kernel
theorem d_law_318 : decode (rm_code rx_lawM) 318 = .ok (.iaload, 1) := by decide +kernel
theorem d_law_319 : decode (rm_code rx_lawM) 319 = .ok (.invokevirtual 43, 3) := by decide +kernel
theorem d_law_322 : decode (rm_code rx_lawM) 322 = .ok (.if_icmp .eq (152), 3) := by decide +kernel
theorem d_law_325 : decode (rm_code rx_lawM) 325 = .ok (.iconst 0, 1) := by decide +kernel
theorem d_law_326 : decode (rm_code rx_lawM) 326 = .ok (.ireturn, 1) := by decide +kernel
theorem d_law_327 : decode (rm_code rx_lawM) 327 = .ok (.aload_n 1, 1) := by decide +kernel
theorem d_law_328 : decode (rm_code rx_lawM) 328 = .ok (.aload_n 0, 1) := by decide +kernel
theorem d_law_329 : decode (rm_code rx_lawM) 329 = .ok (.iload_n 3, 1) := by decide +kernel
theorem d_law_330 : decode (rm_code rx_lawM) 330 = .ok (.iconst 1, 1) := by decide +kernel
theorem d_law_331 : decode (rm_code rx_lawM) 331 = .ok (.iadd, 1) := by decide +kernel
theorem d_law_332 : decode (rm_code rx_lawM) 332 = .ok (.iaload, 1) := by decide +kernel
theorem d_law_333 : decode (rm_code rx_lawM) 333 = .ok (.aload_n 0, 1) := by decide +kernel
theorem d_law_334 : decode (rm_code rx_lawM) 334 = .ok (.iload_n 3, 1) := by decide +kernel
theorem d_law_335 : decode (rm_code rx_lawM) 335 = .ok (.iconst 2, 1) := by decide +kernel
theorem d_law_336 : decode (rm_code rx_lawM) 336 = .ok (.iadd, 1) := by decide +kernel
theorem d_law_337 : decode (rm_code rx_lawM) 337 = .ok (.iaload, 1) := by decide +kernel
theorem d_law_338 : decode (rm_code rx_lawM) 338 = .ok (.invokevirtual 44, 3) := by decide +kernel
theorem d_law_341 : decode (rm_code rx_lawM) 341 = .ok (.aload_n 2, 1) := by decide +kernel
theorem d_law_342 : decode (rm_code rx_lawM) 342 = .ok (.aload_n 0, 1) := by decide +kernel
theorem d_law_343 : decode (rm_code rx_lawM) 343 = .ok (.iload_n 3, 1) := by decide +kernel
theorem d_law_344 : decode (rm_code rx_lawM) 344 = .ok (.iconst 1, 1) := by decide +kernel
theorem d_law_345 : decode (rm_code rx_lawM) 345 = .ok (.iadd, 1) := by decide +kernel
theorem d_law_346 : decode (rm_code rx_lawM) 346 = .ok (.iaload, 1) := by decide +kernel
theorem d_law_347 : decode (rm_code rx_lawM) 347 = .ok (.aload_n 0, 1) := by decide +kernel
theorem d_law_348 : decode (rm_code rx_lawM) 348 = .ok (.iload_n 3, 1) := by decide +kernel
theorem d_law_349 : decode (rm_code rx_lawM) 349 = .ok (.iconst 2, 1) := by decide +kernel
theorem d_law_350 : decode (rm_code rx_lawM) 350 = .ok (.iadd, 1) := by decide +kernel
theorem d_law_351 : decode (rm_code rx_lawM) 351 = .ok (.iaload, 1) := by decide +kernel
theorem d_law_352 : decode (rm_code rx_lawM) 352 = .ok (.invokevirtual 47, 3) := by decide +kernel
theorem d_law_355 : decode (rm_code rx_lawM) 355 = .ok (.if_icmp .eq (119), 3) := by decide +kernel
theorem d_law_358 : decode (rm_code rx_lawM) 358 = .ok (.iconst 0, 1) := by decide +kernel
theorem d_law_359 : decode (rm_code rx_lawM) 359 = .ok (.ireturn, 1) := by decide +kernel
theorem d_law_360 : decode (rm_code rx_lawM) 360 = .ok (.aload_n 1, 1) := by decide +kernel
theorem d_law_361 : decode (rm_code rx_lawM) 361 = .ok (.aload_n 0, 1) := by decide +kernel
theorem d_law_362 : decode (rm_code rx_lawM) 362 = .ok (.iload_n 3, 1) := by decide +kernel
theorem d_law_363 : decode (rm_code rx_lawM) 363 = .ok (.iconst 1, 1) := by decide +kernel
theorem d_law_364 : decode (rm_code rx_lawM) 364 = .ok (.iadd, 1) := by decide +kernel
theorem d_law_365 : decode (rm_code rx_lawM) 365 = .ok (.iaload, 1) := by decide +kernel
theorem d_law_366 : decode (rm_code rx_lawM) 366 = .ok (.aload_n 0, 1) := by decide +kernel
theorem d_law_367 : decode (rm_code rx_lawM) 367 = .ok (.iload_n 3, 1) := by decide +kernel
theorem d_law_368 : decode (rm_code rx_lawM) 368 = .ok (.iconst 2, 1) := by decide +kernel
theorem d_law_369 : decode (rm_code rx_lawM) 369 = .ok (.iadd, 1) := by decide +kernel
theorem d_law_370 : decode (rm_code rx_lawM) 370 = .ok (.iaload, 1) := by decide +kernel
theorem d_law_371 : decode (rm_code rx_lawM) 371 = .ok (.aload_n 0, 1) := by decide +kernel
theorem d_law_372 : decode (rm_code rx_lawM) 372 = .ok (.iload_n 3, 1) := by decide +kernel
theorem d_law_373 : decode (rm_code rx_lawM) 373 = .ok (.iconst 3, 1) := by decide +kernel
theorem d_law_374 : decode (rm_code rx_lawM) 374 = .ok (.iadd, 1) := by decide +kernel
theorem d_law_375 : decode (rm_code rx_lawM) 375 = .ok (.iaload, 1) := by decide +kernel
theorem d_law_376 : decode (rm_code rx_lawM) 376 = .ok (.invokevirtual 48, 3) := by decide +kernel
theorem d_law_379 : decode (rm_code rx_lawM) 379 = .ok (.aload_n 2, 1) := by decide +kernel
theorem d_law_380 : decode (rm_code rx_lawM) 380 = .ok (.aload_n 0, 1) := by decide +kernel
theorem d_law_381 : decode (rm_code rx_lawM) 381 = .ok (.iload_n 3, 1) := by decide +kernel
theorem d_law_382 : decode (rm_code rx_lawM) 382 = .ok (.iconst 1, 1) := by decide +kernel
theorem d_law_383 : decode (rm_code rx_lawM) 383 = .ok (.iadd, 1) := by decide +kernel
theorem d_law_384 : decode (rm_code rx_lawM) 384 = .ok (.iaload, 1) := by decide +kernel
theorem d_law_385 : decode (rm_code rx_lawM) 385 = .ok (.aload_n 0, 1) := by decide +kernel
theorem d_law_386 : decode (rm_code rx_lawM) 386 = .ok (.iload_n 3, 1) := by decide +kernel
theorem d_law_387 : decode (rm_code rx_lawM) 387 = .ok (.iconst 2, 1) := by decide +kernel
theorem d_law_388 : decode (rm_code rx_lawM) 388 = .ok (.iadd, 1) := by decide +kernel
theorem d_law_389 : decode (rm_code rx_lawM) 389 = .ok (.iaload, 1) := by decide +kernel
theorem d_law_390 : decode (rm_code rx_lawM) 390 = .ok (.aload_n 0, 1) := by decide +kernel
theorem d_law_391 : decode (rm_code rx_lawM) 391 = .ok (.iload_n 3, 1) := by decide +kernel
theorem d_law_392 : decode (rm_code rx_lawM) 392 = .ok (.iconst 3, 1) := by decide +kernel
theorem d_law_393 : decode (rm_code rx_lawM) 393 = .ok (.iadd, 1) := by decide +kernel
theorem d_law_394 : decode (rm_code rx_lawM) 394 = .ok (.iaload, 1) := by decide +kernel
theorem d_law_395 : decode (rm_code rx_lawM) 395 = .ok (.invokevirtual 52, 3) := by decide +kernel
theorem d_law_398 : decode (rm_code rx_lawM) 398 = .ok (.if_icmp .eq (76), 3) := by decide +kernel
theorem d_law_401 : decode (rm_code rx_lawM) 401 = .ok (.iconst 0, 1) := by decide +kernel
theorem d_law_402 : decode (rm_code rx_lawM) 402 = .ok (.ireturn, 1) := by decide +kernel
theorem d_law_403 : decode (rm_code rx_lawM) 403 = .ok (.aload_n 1, 1) := by decide +kernel
theorem d_law_404 : decode (rm_code rx_lawM) 404 = .ok (.aload_n 0, 1) := by decide +kernel
theorem d_law_405 : decode (rm_code rx_lawM) 405 = .ok (.iload_n 3, 1) := by decide +kernel
theorem d_law_406 : decode (rm_code rx_lawM) 406 = .ok (.iconst 1, 1) := by decide +kernel
theorem d_law_407 : decode (rm_code rx_lawM) 407 = .ok (.iadd, 1) := by decide +kernel
theorem d_law_408 : decode (rm_code rx_lawM) 408 = .ok (.iaload, 1) := by decide +kernel
theorem d_law_409 : decode (rm_code rx_lawM) 409 = .ok (.ifCond .eq (7), 3) := by decide +kernel
theorem d_law_412 : decode (rm_code rx_lawM) 412 = .ok (.iconst 1, 1) := by decide +kernel
theorem d_law_413 : decode (rm_code rx_lawM) 413 = .ok (.goto (4), 3) := by decide +kernel
theorem d_law_416 : decode (rm_code rx_lawM) 416 = .ok (.iconst 0, 1) := by decide +kernel
theorem d_law_417 : decode (rm_code rx_lawM) 417 = .ok (.invokevirtual 53, 3) := by decide +kernel
theorem d_law_420 : decode (rm_code rx_lawM) 420 = .ok (.aload_n 2, 1) := by decide +kernel
theorem d_law_421 : decode (rm_code rx_lawM) 421 = .ok (.aload_n 0, 1) := by decide +kernel
theorem d_law_422 : decode (rm_code rx_lawM) 422 = .ok (.iload_n 3, 1) := by decide +kernel
theorem d_law_423 : decode (rm_code rx_lawM) 423 = .ok (.iconst 1, 1) := by decide +kernel
theorem d_law_424 : decode (rm_code rx_lawM) 424 = .ok (.iadd, 1) := by decide +kernel
theorem d_law_425 : decode (rm_code rx_lawM) 425 = .ok (.iaload, 1) := by decide +kernel
theorem d_law_426 : decode (rm_code rx_lawM) 426 = .ok (.ifCond .eq (7), 3) := by decide +kernel
theorem d_law_429 : decode (rm_code rx_lawM) 429 = .ok (.iconst 1, 1) := by decide +kernel
theorem d_law_430 : decode (rm_code rx_lawM) 430 = .ok (.goto (4), 3) := by decide +kernel
theorem d_law_433 : decode (rm_code rx_lawM) 433 = .ok (.iconst 0, 1) := by decide +kernel
theorem d_law_434 : decode (rm_code rx_lawM) 434 = .ok (.invokevirtual 57, 3) := by decide +kernel
theorem d_law_437 : decode (rm_code rx_lawM) 437 = .ok (.goto (37), 3) := by decide +kernel
theorem d_law_440 : decode (rm_code rx_lawM) 440 = .ok (.aload_n 1, 1) := by decide +kernel
theorem d_law_441 : decode (rm_code rx_lawM) 441 = .ok (.invokevirtual 58, 3) := by decide +kernel
theorem d_law_444 : decode (rm_code rx_lawM) 444 = .ok (.aload_n 2, 1) := by decide +kernel
theorem d_law_445 : decode (rm_code rx_lawM) 445 = .ok (.invokevirtual 61, 3) := by decide +kernel
theorem d_law_448 : decode (rm_code rx_lawM) 448 = .ok (.goto (26), 3) := by decide +kernel
theorem d_law_451 : decode (rm_code rx_lawM) 451 = .ok (.aload_n 1, 1) := by decide +kernel
theorem d_law_452 : decode (rm_code rx_lawM) 452 = .ok (.aload_n 0, 1) := by decide +kernel
theorem d_law_453 : decode (rm_code rx_lawM) 453 = .ok (.iload_n 3, 1) := by decide +kernel
theorem d_law_454 : decode (rm_code rx_lawM) 454 = .ok (.iconst 1, 1) := by decide +kernel
theorem d_law_455 : decode (rm_code rx_lawM) 455 = .ok (.iadd, 1) := by decide +kernel
theorem d_law_456 : decode (rm_code rx_lawM) 456 = .ok (.iaload, 1) := by decide +kernel
theorem d_law_457 : decode (rm_code rx_lawM) 457 = .ok (.invokevirtual 62, 3) := by decide +kernel
theorem d_law_460 : decode (rm_code rx_lawM) 460 = .ok (.aload_n 2, 1) := by decide +kernel
theorem d_law_461 : decode (rm_code rx_lawM) 461 = .ok (.aload_n 0, 1) := by decide +kernel
theorem d_law_462 : decode (rm_code rx_lawM) 462 = .ok (.iload_n 3, 1) := by decide +kernel
theorem d_law_463 : decode (rm_code rx_lawM) 463 = .ok (.iconst 1, 1) := by decide +kernel
theorem d_law_464 : decode (rm_code rx_lawM) 464 = .ok (.iadd, 1) := by decide +kernel
theorem d_law_465 : decode (rm_code rx_lawM) 465 = .ok (.iaload, 1) := by decide +kernel
theorem d_law_466 : decode (rm_code rx_lawM) 466 = .ok (.invokevirtual 65, 3) := by decide +kernel
theorem d_law_469 : decode (rm_code rx_lawM) 469 = .ok (.if_icmp .eq (5), 3) := by decide +kernel
theorem d_law_472 : decode (rm_code rx_lawM) 472 = .ok (.iconst 0, 1) := by decide +kernel
theorem d_law_473 : decode (rm_code rx_lawM) 473 = .ok (.ireturn, 1) := by decide +kernel
theorem d_law_474 : decode (rm_code rx_lawM) 474 = .ok (.iinc 3 (6), 3) := by decide +kernel
theorem d_law_477 : decode (rm_code rx_lawM) 477 = .ok (.goto (-459), 3) := by decide +kernel
theorem d_law_480 : decode (rm_code rx_lawM) 480 = .ok (.iconst 1, 1) := by decide +kernel
theorem d_law_481 : decode (rm_code rx_lawM) 481 = .ok (.ireturn, 1) := by decide +kernel
theorem w_law_13 : rx_who 13 (.invokevirtual 13) 3 = some mX_feed := rx_whoV (j := 13) (pos := 3014) (by decide +kernel) j_X_feed rfl
theorem w_law_17 : rx_who 13 (.invokevirtual 17) 3 = some mM_feed := rx_whoV (j := 212) (pos := 6194) (by decide +kernel) j_M_feed rfl
theorem w_law_18 : rx_who 13 (.invokevirtual 18) 3 = some mX_open := rx_whoV (j := 15) (pos := 3022) (by decide +kernel) j_X_open rfl
theorem w_law_22 : rx_who 13 (.invokevirtual 22) 3 = some mM_open := rx_whoV (j := 214) (pos := 6203) (by decide +kernel) j_M_open rfl
theorem w_law_23 : rx_who 13 (.invokevirtual 23) 3 = some mX_write := rx_whoV (j := 160) (pos := 5190) (by decide +kernel) j_X_write rfl
theorem w_law_26 : rx_who 13 (.invokevirtual 26) 3 = some mM_write := rx_whoV (j := 338) (pos := 9007) (by decide +kernel) j_M_write rfl
theorem w_law_27 : rx_who 13 (.invokevirtual 27) 3 = some mX_close := rx_whoV (j := 166) (pos := 5215) (by decide +kernel) j_X_close rfl
theorem w_law_31 : rx_who 13 (.invokevirtual 31) 3 = some mM_close := rx_whoV (j := 320) (pos := 8136) (by decide +kernel) j_M_close rfl
theorem w_law_32 : rx_who 13 (.invokevirtual 32) 3 = some mX_read := rx_whoV (j := 168) (pos := 5225) (by decide +kernel) j_X_read rfl
theorem w_law_35 : rx_who 13 (.invokevirtual 35) 3 = some mM_read := rx_whoV (j := 321) (pos := 8140) (by decide +kernel) j_M_read rfl
theorem w_law_36 : rx_who 13 (.invokevirtual 36) 3 = some mX_out := rx_whoV (j := 200) (pos := 6140) (by decide +kernel) j_X_out rfl
theorem w_law_39 : rx_who 13 (.invokevirtual 39) 3 = some mM_out := rx_whoV (j := 337) (pos := 9003) (by decide +kernel) j_M_out rfl
theorem w_law_40 : rx_who 13 (.invokevirtual 40) 3 = some mX_look := rx_whoV (j := 201) (pos := 6144) (by decide +kernel) j_X_look rfl
theorem w_law_43 : rx_who 13 (.invokevirtual 43) 3 = some mM_look := rx_whoV (j := 343) (pos := 9027) (by decide +kernel) j_M_look rfl
theorem w_law_44 : rx_who 13 (.invokevirtual 44) 3 = some mX_bits := rx_whoV (j := 202) (pos := 6149) (by decide +kernel) j_X_bits rfl
theorem w_law_47 : rx_who 13 (.invokevirtual 47) 3 = some mM_bits := rx_whoV (j := 344) (pos := 9031) (by decide +kernel) j_M_bits rfl
theorem w_law_48 : rx_who 13 (.invokevirtual 48) 3 = some mX_turn := rx_whoV (j := 206) (pos := 6166) (by decide +kernel) j_X_turn rfl
theorem w_law_52 : rx_who 13 (.invokevirtual 52) 3 = some mM_turn := rx_whoV (j := 346) (pos := 9038) (by decide +kernel) j_M_turn rfl
theorem w_law_53 : rx_who 13 (.invokevirtual 53) 3 = some mX_protect := rx_whoV (j := 208) (pos := 6174) (by decide +kernel) j_X_protect rfl
theorem w_law_57 : rx_who 13 (.invokevirtual 57) 3 = some mM_protect := rx_whoV (j := 347) (pos := 9042) (by decide +kernel) j_M_protect rfl
theorem w_law_58 : rx_who 13 (.invokevirtual 58) 3 = some mX_power := rx_whoV (j := 209) (pos := 6178) (by decide +kernel) j_X_power rfl
theorem w_law_61 : rx_who 13 (.invokevirtual 61) 3 = some mM_power := rx_whoV (j := 349) (pos := 9050) (by decide +kernel) j_M_power rfl
theorem w_law_62 : rx_who 13 (.invokevirtual 62) 3 = some mX_memory := rx_whoV (j := 211) (pos := 6189) (by decide +kernel) j_X_memory rfl
theorem w_law_65 : rx_who 13 (.invokevirtual 65) 3 = some mM_memory := rx_whoV (j := 348) (pos := 9046) (by decide +kernel) j_M_memory rfl
def rd_two (X M : rx_M) (as : List Value) (S : rz_S) (P : rz_S → Prop) : Prop := rz_ev X (.ref 0 :: as) S (rz_i (fun x S1 => rz_ev M (.ref 116 :: as) S1 (rz_i (fun y S2 => x = y ∧ P S2))))
def rd_twov (X M : rx_M) (as : List Value) (S : rz_S) (P : rz_S → Prop) : Prop := rz_ev X (.ref 0 :: as) S (rz_v (fun S1 => rz_ev M (.ref 116 :: as) S1 (rz_v P)))
/-- WHAT IS LEFT: each call keeps R, and both answer alike -/
def rd_step (R : Nat → rz_S → Prop) : Prop := ∀ (i : Nat) (S : rz_S), i < 512 → R i S → R (i + 1) S ∧
  (∀ a b c d e : Int32, rd_two mX_feed mM_feed [.int a, .int b, .int c, .int d, .int e] S (R (i + 1))) ∧
  (∀ a b : Int32, rd_two mX_open mM_open [.int a, .int b] S (R (i + 1))) ∧
  (∀ a b : Int32, rd_two mX_write mM_write [.int a, .int b] S (R (i + 1))) ∧
  (∀ a : Int32, rd_two mX_close mM_close [.int a] S (R (i + 1))) ∧
  (∀ a b : Int32, rd_two mX_read mM_read [.int a, .int b] S (R (i + 1))) ∧
  (∀ a : Int32, rd_two mX_out mM_out [.int a] S (R (i + 1))) ∧
  (∀ a : Int32, rd_two mX_look mM_look [.int a] S (R (i + 1))) ∧
  (∀ a b : Int32, rd_two mX_bits mM_bits [.int a, .int b] S (R (i + 1))) ∧
  (∀ a b c : Int32, rd_two mX_turn mM_turn [.int a, .int b, .int c] S (R (i + 1))) ∧
  (∀ a : Int32, a = 0 ∨ a = 1 → rd_twov mX_protect mM_protect [.int a] S (R (i + 1))) ∧
  (rd_twov mX_power mM_power [] S (R (i + 1))) ∧
  (∀ a : Int32, rd_two mX_memory mM_memory [.int a] S (R (i + 1)))
section RDL
variable {L uc us pc : Nat} {xs : Nat → Int32} {S : rz_S} {st rest : List Value} {h : rx_H}
abbrev rd_l (x : Int32) : rx_L := [(3, .int x), (2, .ref 116), (1, .ref 0), (0, .ref 5000000)]
theorem rd_in {j : Nat} (hj : j < L) (hL : L ≤ 3072) : rx_in (nI j) L = true := decide_eq_true (vp_in_nI hj (by omega))
/-- an int of the script -/
theorem rd_arg {i k : Nat} {kv : Int} (d0 : decode (rm_code rx_lawM) pc = .ok (.aload_n 0, 1)) (d1 : decode (rm_code rx_lawM) (pc + 1) = .ok (.iload_n 3, 1)) (d2 : decode (rm_code rx_lawM) (pc + 1 + 1) = .ok (.iconst kv, 1)) (d3 : decode (rm_code rx_lawM) (pc + 1 + 1 + 1) = .ok (.iadd, 1)) (d4 : decode (rm_code rx_lawM) (pc + 1 + 1 + 1 + 1) = .ok (.iaload, 1)) (hk : Int32.ofInt kv = nI k) (hj : i + k < L) (hL : L ≤ 3072) (kk : rl rx_lawM L xs (pc + 5, rd_l (nI i), .int (xs (i + k)) :: st, h, uc, us)) : rl rx_lawM L xs (pc, rd_l (nI i), st, h, uc, us) := by
  refine rl_pure (pc' := pc + 1) (l' := rd_l (nI i)) (st' := .ref 5000000 :: st) d0 rfl rfl ?_
  refine rl_pure (pc' := pc + 1 + 1) (l' := rd_l (nI i)) (st' := .int (nI i) :: .ref 5000000 :: st) d1 rfl rfl ?_
  refine rl_pure (pc' := pc + 1 + 1 + 1) (l' := rd_l (nI i)) (st' := .int (nI k) :: .int (nI i) :: .ref 5000000 :: st) d2 rfl (by rw [← hk]; rfl) ?_
  refine rl_pure (pc' := pc + 1 + 1 + 1 + 1) (l' := rd_l (nI i)) (st' := .int (nI (i + k)) :: .ref 5000000 :: st) d3 rfl (by rw [← nI_add]; rfl) ?_
  refine rl_scr (st' := .int (xs (i + k)) :: st) d4 ?_ kk
  have h1 := rd_in hj hL
  have h2 : (nI (i + k)).toNatClampNeg = i + k := nI_clamp (by omega)
  simp [rx_scr, h1, h2]
theorem rd_callV {Z : rx_M} {Q1 : Option Value → rz_S → Prop} {idx k : Nat} {l : rx_L} {fs : List (Option Value)} {t : List Value} (hd : decode (rm_code rx_lawM) pc = .ok (.invokevirtual idx, 3)) (hw : rx_who (rm_co rx_lawM) (.invokevirtual idx) 3 = some Z) (hk : rm_kind Z = 0) (hT : rz_T[k]? = some (.inr (.inr (rm_co Z, fs)))) (hroom : rz_room rx_lawM Z rest (t ++ [Value.ref k]) = true) (hu : uc ≤ 600000 ∧ us ≤ 7302250) (hc : rz_ev Z (.ref k :: t.reverse) S Q1) (kk : ∀ r1 S1, Q1 r1 S1 → rl rx_lawM L xs (pc + 3, l, r1.toList ++ rest, rz_H S1, uc, us)) : rl rx_lawM L xs (pc, l, t ++ Value.ref k :: rest, rz_H S, uc, us) := by
  unfold rz_room at hroom
  simp only [Bool.and_eq_true, decide_eq_true_eq] at hroom
  obtain ⟨⟨⟨⟨⟨⟨a1, a2⟩, a3⟩, a4⟩, a5⟩, a6⟩, a7⟩ := hroom
  have e0 : t ++ Value.ref k :: rest = (t ++ [Value.ref k]) ++ rest := by simp
  have e1 : (t ++ Value.ref k :: rest).take (rx_na Z) = t ++ [Value.ref k] := by rw [e0, a7]; exact List.take_left
  have e2 : (t ++ Value.ref k :: rest).drop (rx_na Z) = rest := by rw [e0, a7]; exact List.drop_left
  have hz : (rz_H S)[k]? = some (.inr (.inr (rm_co Z, fs.mapIdx (rz_f S k)))) := rz_get hT
  obtain ⟨n1, r1, S1, hn1, hq1⟩ := hc
  refine rl_call (Z := Z) (n1 := n1) (r1 := r1) (h1 := rz_H S1) hd rfl rfl hw ?_ ?_ ?_
  · unfold rx_may
    rw [e1, e2, if_pos hk]
    have : rx_rcv Z (rz_H S) (t ++ [Value.ref k]).reverse = true := by simp [rx_rcv, hz]
    rw [this]
    simp only [Bool.and_eq_true, decide_eq_true_eq, Bool.or_eq_true]
    exact ⟨⟨⟨⟨⟨⟨⟨⟨by rw [a7]; simp, a1⟩, a2⟩, a3⟩, by rw [a4]; exact hu.1⟩, by rw [a5]; exact hu.2⟩, Or.inl a4⟩, a6⟩, trivial⟩
  · rw [e1]; simpa using hn1
  · rw [e2, a4, a5]; exact kk r1 S1 hq1

theorem rd_c_feed {R : Nat → rz_S → Prop} {i n : Nat} (hL : L ≤ 3072) (hi : i + 6 ≤ L) (hu : uc ≤ 600000 ∧ us ≤ 7302250) (hc : rd_two mX_feed mM_feed [.int (xs (i + 1)), .int (xs (i + 2)), .int (xs (i + 3)), .int (xs (i + 4)), .int (xs (i + 5))] S (R n)) (kk : ∀ S1, R n S1 → rl rx_lawM L xs (474, rd_l (nI i), [], rz_H S1, uc, us)) : rl rx_lawM L xs (96, rd_l (nI i), [], rz_H S, uc, us) := by
  refine rl_pure (pc' := 97) (l' := rd_l (nI i)) (st' := [.ref 0]) d_law_96 rfl rfl ?_
  refine rd_arg (k := 1) d_law_97 d_law_98 d_law_99 d_law_100 d_law_101 (by decide) (by omega) hL ?_
  refine rd_arg (k := 2) d_law_102 d_law_103 d_law_104 d_law_105 d_law_106 (by decide) (by omega) hL ?_
  refine rd_arg (k := 3) d_law_107 d_law_108 d_law_109 d_law_110 d_law_111 (by decide) (by omega) hL ?_
  refine rd_arg (k := 4) d_law_112 d_law_113 d_law_114 d_law_115 d_law_116 (by decide) (by omega) hL ?_
  refine rd_arg (k := 5) d_law_117 d_law_118 d_law_119 d_law_120 d_law_121 (by decide) (by omega) hL ?_
  refine rd_callV (k := 0) (t := [.int (xs (i + 5)), .int (xs (i + 4)), .int (xs (i + 3)), .int (xs (i + 2)), .int (xs (i + 1))]) (rest := []) d_law_122 w_law_13 rfl rfl rfl hu hc (fun r1 S1 q1 => ?_)
  obtain ⟨x, rfl, hc⟩ := q1
  refine rl_pure (pc' := 126) (l' := rd_l (nI i)) (st' := [.ref 116, .int x]) d_law_125 rfl rfl ?_
  refine rd_arg (k := 1) d_law_126 d_law_127 d_law_128 d_law_129 d_law_130 (by decide) (by omega) hL ?_
  refine rd_arg (k := 2) d_law_131 d_law_132 d_law_133 d_law_134 d_law_135 (by decide) (by omega) hL ?_
  refine rd_arg (k := 3) d_law_136 d_law_137 d_law_138 d_law_139 d_law_140 (by decide) (by omega) hL ?_
  refine rd_arg (k := 4) d_law_141 d_law_142 d_law_143 d_law_144 d_law_145 (by decide) (by omega) hL ?_
  refine rd_arg (k := 5) d_law_146 d_law_147 d_law_148 d_law_149 d_law_150 (by decide) (by omega) hL ?_
  refine rd_callV (k := 116) (t := [.int (xs (i + 5)), .int (xs (i + 4)), .int (xs (i + 3)), .int (xs (i + 2)), .int (xs (i + 1))]) (rest := [.int x]) d_law_151 w_law_17 rfl rfl rfl hu hc (fun r2 S2 q2 => ?_)
  obtain ⟨y, rfl, rfl, hR⟩ := q2
  refine rl_pure (pc' := 474) (l' := rd_l (nI i)) (st' := []) d_law_154 rfl (by simp [rx_pure, rx_b2, rx_c2, rx_tg, Option.toList]) ?_
  exact kk _ hR
theorem rd_c_open {R : Nat → rz_S → Prop} {i n : Nat} (hL : L ≤ 3072) (hi : i + 6 ≤ L) (hu : uc ≤ 600000 ∧ us ≤ 7302250) (hc : rd_two mX_open mM_open [.int (xs (i + 1)), .int (xs (i + 2))] S (R n)) (kk : ∀ S1, R n S1 → rl rx_lawM L xs (474, rd_l (nI i), [], rz_H S1, uc, us)) : rl rx_lawM L xs (159, rd_l (nI i), [], rz_H S, uc, us) := by
  refine rl_pure (pc' := 160) (l' := rd_l (nI i)) (st' := [.ref 0]) d_law_159 rfl rfl ?_
  refine rd_arg (k := 1) d_law_160 d_law_161 d_law_162 d_law_163 d_law_164 (by decide) (by omega) hL ?_
  refine rd_arg (k := 2) d_law_165 d_law_166 d_law_167 d_law_168 d_law_169 (by decide) (by omega) hL ?_
  refine rd_callV (k := 0) (t := [.int (xs (i + 2)), .int (xs (i + 1))]) (rest := []) d_law_170 w_law_18 rfl rfl rfl hu hc (fun r1 S1 q1 => ?_)
  obtain ⟨x, rfl, hc⟩ := q1
  refine rl_pure (pc' := 174) (l' := rd_l (nI i)) (st' := [.ref 116, .int x]) d_law_173 rfl rfl ?_
  refine rd_arg (k := 1) d_law_174 d_law_175 d_law_176 d_law_177 d_law_178 (by decide) (by omega) hL ?_
  refine rd_arg (k := 2) d_law_179 d_law_180 d_law_181 d_law_182 d_law_183 (by decide) (by omega) hL ?_
  refine rd_callV (k := 116) (t := [.int (xs (i + 2)), .int (xs (i + 1))]) (rest := [.int x]) d_law_184 w_law_22 rfl rfl rfl hu hc (fun r2 S2 q2 => ?_)
  obtain ⟨y, rfl, rfl, hR⟩ := q2
  refine rl_pure (pc' := 474) (l' := rd_l (nI i)) (st' := []) d_law_187 rfl (by simp [rx_pure, rx_b2, rx_c2, rx_tg, Option.toList]) ?_
  exact kk _ hR
theorem rd_c_write {R : Nat → rz_S → Prop} {i n : Nat} (hL : L ≤ 3072) (hi : i + 6 ≤ L) (hu : uc ≤ 600000 ∧ us ≤ 7302250) (hc : rd_two mX_write mM_write [.int (xs (i + 1)), .int (xs (i + 2))] S (R n)) (kk : ∀ S1, R n S1 → rl rx_lawM L xs (474, rd_l (nI i), [], rz_H S1, uc, us)) : rl rx_lawM L xs (192, rd_l (nI i), [], rz_H S, uc, us) := by
  refine rl_pure (pc' := 193) (l' := rd_l (nI i)) (st' := [.ref 0]) d_law_192 rfl rfl ?_
  refine rd_arg (k := 1) d_law_193 d_law_194 d_law_195 d_law_196 d_law_197 (by decide) (by omega) hL ?_
  refine rd_arg (k := 2) d_law_198 d_law_199 d_law_200 d_law_201 d_law_202 (by decide) (by omega) hL ?_
  refine rd_callV (k := 0) (t := [.int (xs (i + 2)), .int (xs (i + 1))]) (rest := []) d_law_203 w_law_23 rfl rfl rfl hu hc (fun r1 S1 q1 => ?_)
  obtain ⟨x, rfl, hc⟩ := q1
  refine rl_pure (pc' := 207) (l' := rd_l (nI i)) (st' := [.ref 116, .int x]) d_law_206 rfl rfl ?_
  refine rd_arg (k := 1) d_law_207 d_law_208 d_law_209 d_law_210 d_law_211 (by decide) (by omega) hL ?_
  refine rd_arg (k := 2) d_law_212 d_law_213 d_law_214 d_law_215 d_law_216 (by decide) (by omega) hL ?_
  refine rd_callV (k := 116) (t := [.int (xs (i + 2)), .int (xs (i + 1))]) (rest := [.int x]) d_law_217 w_law_26 rfl rfl rfl hu hc (fun r2 S2 q2 => ?_)
  obtain ⟨y, rfl, rfl, hR⟩ := q2
  refine rl_pure (pc' := 474) (l' := rd_l (nI i)) (st' := []) d_law_220 rfl (by simp [rx_pure, rx_b2, rx_c2, rx_tg, Option.toList]) ?_
  exact kk _ hR
theorem rd_c_close {R : Nat → rz_S → Prop} {i n : Nat} (hL : L ≤ 3072) (hi : i + 6 ≤ L) (hu : uc ≤ 600000 ∧ us ≤ 7302250) (hc : rd_two mX_close mM_close [.int (xs (i + 1))] S (R n)) (kk : ∀ S1, R n S1 → rl rx_lawM L xs (474, rd_l (nI i), [], rz_H S1, uc, us)) : rl rx_lawM L xs (225, rd_l (nI i), [], rz_H S, uc, us) := by
  refine rl_pure (pc' := 226) (l' := rd_l (nI i)) (st' := [.ref 0]) d_law_225 rfl rfl ?_
  refine rd_arg (k := 1) d_law_226 d_law_227 d_law_228 d_law_229 d_law_230 (by decide) (by omega) hL ?_
  refine rd_callV (k := 0) (t := [.int (xs (i + 1))]) (rest := []) d_law_231 w_law_27 rfl rfl rfl hu hc (fun r1 S1 q1 => ?_)
  obtain ⟨x, rfl, hc⟩ := q1
  refine rl_pure (pc' := 235) (l' := rd_l (nI i)) (st' := [.ref 116, .int x]) d_law_234 rfl rfl ?_
  refine rd_arg (k := 1) d_law_235 d_law_236 d_law_237 d_law_238 d_law_239 (by decide) (by omega) hL ?_
  refine rd_callV (k := 116) (t := [.int (xs (i + 1))]) (rest := [.int x]) d_law_240 w_law_31 rfl rfl rfl hu hc (fun r2 S2 q2 => ?_)
  obtain ⟨y, rfl, rfl, hR⟩ := q2
  refine rl_pure (pc' := 474) (l' := rd_l (nI i)) (st' := []) d_law_243 rfl (by simp [rx_pure, rx_b2, rx_c2, rx_tg, Option.toList]) ?_
  exact kk _ hR
theorem rd_c_read {R : Nat → rz_S → Prop} {i n : Nat} (hL : L ≤ 3072) (hi : i + 6 ≤ L) (hu : uc ≤ 600000 ∧ us ≤ 7302250) (hc : rd_two mX_read mM_read [.int (xs (i + 1)), .int (xs (i + 2))] S (R n)) (kk : ∀ S1, R n S1 → rl rx_lawM L xs (474, rd_l (nI i), [], rz_H S1, uc, us)) : rl rx_lawM L xs (248, rd_l (nI i), [], rz_H S, uc, us) := by
  refine rl_pure (pc' := 249) (l' := rd_l (nI i)) (st' := [.ref 0]) d_law_248 rfl rfl ?_
  refine rd_arg (k := 1) d_law_249 d_law_250 d_law_251 d_law_252 d_law_253 (by decide) (by omega) hL ?_
  refine rd_arg (k := 2) d_law_254 d_law_255 d_law_256 d_law_257 d_law_258 (by decide) (by omega) hL ?_
  refine rd_callV (k := 0) (t := [.int (xs (i + 2)), .int (xs (i + 1))]) (rest := []) d_law_259 w_law_32 rfl rfl rfl hu hc (fun r1 S1 q1 => ?_)
  obtain ⟨x, rfl, hc⟩ := q1
  refine rl_pure (pc' := 263) (l' := rd_l (nI i)) (st' := [.ref 116, .int x]) d_law_262 rfl rfl ?_
  refine rd_arg (k := 1) d_law_263 d_law_264 d_law_265 d_law_266 d_law_267 (by decide) (by omega) hL ?_
  refine rd_arg (k := 2) d_law_268 d_law_269 d_law_270 d_law_271 d_law_272 (by decide) (by omega) hL ?_
  refine rd_callV (k := 116) (t := [.int (xs (i + 2)), .int (xs (i + 1))]) (rest := [.int x]) d_law_273 w_law_35 rfl rfl rfl hu hc (fun r2 S2 q2 => ?_)
  obtain ⟨y, rfl, rfl, hR⟩ := q2
  refine rl_pure (pc' := 474) (l' := rd_l (nI i)) (st' := []) d_law_276 rfl (by simp [rx_pure, rx_b2, rx_c2, rx_tg, Option.toList]) ?_
  exact kk _ hR
theorem rd_c_out {R : Nat → rz_S → Prop} {i n : Nat} (hL : L ≤ 3072) (hi : i + 6 ≤ L) (hu : uc ≤ 600000 ∧ us ≤ 7302250) (hc : rd_two mX_out mM_out [.int (xs (i + 1))] S (R n)) (kk : ∀ S1, R n S1 → rl rx_lawM L xs (474, rd_l (nI i), [], rz_H S1, uc, us)) : rl rx_lawM L xs (281, rd_l (nI i), [], rz_H S, uc, us) := by
  refine rl_pure (pc' := 282) (l' := rd_l (nI i)) (st' := [.ref 0]) d_law_281 rfl rfl ?_
  refine rd_arg (k := 1) d_law_282 d_law_283 d_law_284 d_law_285 d_law_286 (by decide) (by omega) hL ?_
  refine rd_callV (k := 0) (t := [.int (xs (i + 1))]) (rest := []) d_law_287 w_law_36 rfl rfl rfl hu hc (fun r1 S1 q1 => ?_)
  obtain ⟨x, rfl, hc⟩ := q1
  refine rl_pure (pc' := 291) (l' := rd_l (nI i)) (st' := [.ref 116, .int x]) d_law_290 rfl rfl ?_
  refine rd_arg (k := 1) d_law_291 d_law_292 d_law_293 d_law_294 d_law_295 (by decide) (by omega) hL ?_
  refine rd_callV (k := 116) (t := [.int (xs (i + 1))]) (rest := [.int x]) d_law_296 w_law_39 rfl rfl rfl hu hc (fun r2 S2 q2 => ?_)
  obtain ⟨y, rfl, rfl, hR⟩ := q2
  refine rl_pure (pc' := 474) (l' := rd_l (nI i)) (st' := []) d_law_299 rfl (by simp [rx_pure, rx_b2, rx_c2, rx_tg, Option.toList]) ?_
  exact kk _ hR
theorem rd_c_look {R : Nat → rz_S → Prop} {i n : Nat} (hL : L ≤ 3072) (hi : i + 6 ≤ L) (hu : uc ≤ 600000 ∧ us ≤ 7302250) (hc : rd_two mX_look mM_look [.int (xs (i + 1))] S (R n)) (kk : ∀ S1, R n S1 → rl rx_lawM L xs (474, rd_l (nI i), [], rz_H S1, uc, us)) : rl rx_lawM L xs (304, rd_l (nI i), [], rz_H S, uc, us) := by
  refine rl_pure (pc' := 305) (l' := rd_l (nI i)) (st' := [.ref 0]) d_law_304 rfl rfl ?_
  refine rd_arg (k := 1) d_law_305 d_law_306 d_law_307 d_law_308 d_law_309 (by decide) (by omega) hL ?_
  refine rd_callV (k := 0) (t := [.int (xs (i + 1))]) (rest := []) d_law_310 w_law_40 rfl rfl rfl hu hc (fun r1 S1 q1 => ?_)
  obtain ⟨x, rfl, hc⟩ := q1
  refine rl_pure (pc' := 314) (l' := rd_l (nI i)) (st' := [.ref 116, .int x]) d_law_313 rfl rfl ?_
  refine rd_arg (k := 1) d_law_314 d_law_315 d_law_316 d_law_317 d_law_318 (by decide) (by omega) hL ?_
  refine rd_callV (k := 116) (t := [.int (xs (i + 1))]) (rest := [.int x]) d_law_319 w_law_43 rfl rfl rfl hu hc (fun r2 S2 q2 => ?_)
  obtain ⟨y, rfl, rfl, hR⟩ := q2
  refine rl_pure (pc' := 474) (l' := rd_l (nI i)) (st' := []) d_law_322 rfl (by simp [rx_pure, rx_b2, rx_c2, rx_tg, Option.toList]) ?_
  exact kk _ hR
theorem rd_c_bits {R : Nat → rz_S → Prop} {i n : Nat} (hL : L ≤ 3072) (hi : i + 6 ≤ L) (hu : uc ≤ 600000 ∧ us ≤ 7302250) (hc : rd_two mX_bits mM_bits [.int (xs (i + 1)), .int (xs (i + 2))] S (R n)) (kk : ∀ S1, R n S1 → rl rx_lawM L xs (474, rd_l (nI i), [], rz_H S1, uc, us)) : rl rx_lawM L xs (327, rd_l (nI i), [], rz_H S, uc, us) := by
  refine rl_pure (pc' := 328) (l' := rd_l (nI i)) (st' := [.ref 0]) d_law_327 rfl rfl ?_
  refine rd_arg (k := 1) d_law_328 d_law_329 d_law_330 d_law_331 d_law_332 (by decide) (by omega) hL ?_
  refine rd_arg (k := 2) d_law_333 d_law_334 d_law_335 d_law_336 d_law_337 (by decide) (by omega) hL ?_
  refine rd_callV (k := 0) (t := [.int (xs (i + 2)), .int (xs (i + 1))]) (rest := []) d_law_338 w_law_44 rfl rfl rfl hu hc (fun r1 S1 q1 => ?_)
  obtain ⟨x, rfl, hc⟩ := q1
  refine rl_pure (pc' := 342) (l' := rd_l (nI i)) (st' := [.ref 116, .int x]) d_law_341 rfl rfl ?_
  refine rd_arg (k := 1) d_law_342 d_law_343 d_law_344 d_law_345 d_law_346 (by decide) (by omega) hL ?_
  refine rd_arg (k := 2) d_law_347 d_law_348 d_law_349 d_law_350 d_law_351 (by decide) (by omega) hL ?_
  refine rd_callV (k := 116) (t := [.int (xs (i + 2)), .int (xs (i + 1))]) (rest := [.int x]) d_law_352 w_law_47 rfl rfl rfl hu hc (fun r2 S2 q2 => ?_)
  obtain ⟨y, rfl, rfl, hR⟩ := q2
  refine rl_pure (pc' := 474) (l' := rd_l (nI i)) (st' := []) d_law_355 rfl (by simp [rx_pure, rx_b2, rx_c2, rx_tg, Option.toList]) ?_
  exact kk _ hR
theorem rd_c_turn {R : Nat → rz_S → Prop} {i n : Nat} (hL : L ≤ 3072) (hi : i + 6 ≤ L) (hu : uc ≤ 600000 ∧ us ≤ 7302250) (hc : rd_two mX_turn mM_turn [.int (xs (i + 1)), .int (xs (i + 2)), .int (xs (i + 3))] S (R n)) (kk : ∀ S1, R n S1 → rl rx_lawM L xs (474, rd_l (nI i), [], rz_H S1, uc, us)) : rl rx_lawM L xs (360, rd_l (nI i), [], rz_H S, uc, us) := by
  refine rl_pure (pc' := 361) (l' := rd_l (nI i)) (st' := [.ref 0]) d_law_360 rfl rfl ?_
  refine rd_arg (k := 1) d_law_361 d_law_362 d_law_363 d_law_364 d_law_365 (by decide) (by omega) hL ?_
  refine rd_arg (k := 2) d_law_366 d_law_367 d_law_368 d_law_369 d_law_370 (by decide) (by omega) hL ?_
  refine rd_arg (k := 3) d_law_371 d_law_372 d_law_373 d_law_374 d_law_375 (by decide) (by omega) hL ?_
  refine rd_callV (k := 0) (t := [.int (xs (i + 3)), .int (xs (i + 2)), .int (xs (i + 1))]) (rest := []) d_law_376 w_law_48 rfl rfl rfl hu hc (fun r1 S1 q1 => ?_)
  obtain ⟨x, rfl, hc⟩ := q1
  refine rl_pure (pc' := 380) (l' := rd_l (nI i)) (st' := [.ref 116, .int x]) d_law_379 rfl rfl ?_
  refine rd_arg (k := 1) d_law_380 d_law_381 d_law_382 d_law_383 d_law_384 (by decide) (by omega) hL ?_
  refine rd_arg (k := 2) d_law_385 d_law_386 d_law_387 d_law_388 d_law_389 (by decide) (by omega) hL ?_
  refine rd_arg (k := 3) d_law_390 d_law_391 d_law_392 d_law_393 d_law_394 (by decide) (by omega) hL ?_
  refine rd_callV (k := 116) (t := [.int (xs (i + 3)), .int (xs (i + 2)), .int (xs (i + 1))]) (rest := [.int x]) d_law_395 w_law_52 rfl rfl rfl hu hc (fun r2 S2 q2 => ?_)
  obtain ⟨y, rfl, rfl, hR⟩ := q2
  refine rl_pure (pc' := 474) (l' := rd_l (nI i)) (st' := []) d_law_398 rfl (by simp [rx_pure, rx_b2, rx_c2, rx_tg, Option.toList]) ?_
  exact kk _ hR
theorem rd_c_power {R : Nat → rz_S → Prop} {i n : Nat} (hL : L ≤ 3072) (hi : i + 6 ≤ L) (hu : uc ≤ 600000 ∧ us ≤ 7302250) (hc : rd_twov mX_power mM_power [] S (R n)) (kk : ∀ S1, R n S1 → rl rx_lawM L xs (474, rd_l (nI i), [], rz_H S1, uc, us)) : rl rx_lawM L xs (440, rd_l (nI i), [], rz_H S, uc, us) := by
  refine rl_pure (pc' := 441) (l' := rd_l (nI i)) (st' := [.ref 0]) d_law_440 rfl rfl ?_
  refine rd_callV (k := 0) (t := []) (rest := []) d_law_441 w_law_58 rfl rfl rfl hu hc (fun r1 S1 q1 => ?_)
  obtain ⟨rfl, hc⟩ := q1
  refine rl_pure (pc' := 445) (l' := rd_l (nI i)) (st' := [.ref 116]) d_law_444 rfl rfl ?_
  refine rd_callV (k := 116) (t := []) (rest := []) d_law_445 w_law_61 rfl rfl rfl hu hc (fun r2 S2 q2 => ?_)
  obtain ⟨rfl, hR⟩ := q2
  refine rl_pure (pc' := 474) (l' := rd_l (nI i)) (st' := []) d_law_448 rfl rfl ?_
  exact kk _ hR
theorem rd_c_memory {R : Nat → rz_S → Prop} {i n : Nat} (hL : L ≤ 3072) (hi : i + 6 ≤ L) (hu : uc ≤ 600000 ∧ us ≤ 7302250) (hc : rd_two mX_memory mM_memory [.int (xs (i + 1))] S (R n)) (kk : ∀ S1, R n S1 → rl rx_lawM L xs (474, rd_l (nI i), [], rz_H S1, uc, us)) : rl rx_lawM L xs (451, rd_l (nI i), [], rz_H S, uc, us) := by
  refine rl_pure (pc' := 452) (l' := rd_l (nI i)) (st' := [.ref 0]) d_law_451 rfl rfl ?_
  refine rd_arg (k := 1) d_law_452 d_law_453 d_law_454 d_law_455 d_law_456 (by decide) (by omega) hL ?_
  refine rd_callV (k := 0) (t := [.int (xs (i + 1))]) (rest := []) d_law_457 w_law_62 rfl rfl rfl hu hc (fun r1 S1 q1 => ?_)
  obtain ⟨x, rfl, hc⟩ := q1
  refine rl_pure (pc' := 461) (l' := rd_l (nI i)) (st' := [.ref 116, .int x]) d_law_460 rfl rfl ?_
  refine rd_arg (k := 1) d_law_461 d_law_462 d_law_463 d_law_464 d_law_465 (by decide) (by omega) hL ?_
  refine rd_callV (k := 116) (t := [.int (xs (i + 1))]) (rest := [.int x]) d_law_466 w_law_65 rfl rfl rfl hu hc (fun r2 S2 q2 => ?_)
  obtain ⟨y, rfl, rfl, hR⟩ := q2
  refine rl_pure (pc' := 474) (l' := rd_l (nI i)) (st' := []) d_law_469 rfl (by simp [rx_pure, rx_b2, rx_c2, rx_tg, Option.toList]) ?_
  exact kk _ hR
end RDL
