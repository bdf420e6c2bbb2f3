theorem dX8_serve_36 : decode cX8_serve 36 = .ok (.iload 4, 2) := by decide +kernel
theorem dX8_serve_38 : decode cX8_serve 38 = .ok (.iconst 3, 1) := by decide +kernel
theorem dX8_serve_39 : decode cX8_serve 39 = .ok (.if_icmp .ne 8, 3) := by decide +kernel
theorem dX8_serve_42 : decode cX8_serve 42 = .ok (.bipush (-15), 2) := by decide +kernel
theorem dX8_serve_44 : decode cX8_serve 44 = .ok (.goto 4, 3) := by decide +kernel
theorem dX8_serve_47 : decode cX8_serve 47 = .ok (.iconst 0, 1) := by decide +kernel
theorem dX8_serve_48 : decode cX8_serve 48 = .ok (.invokevirtual 156, 3) := by decide +kernel
theorem dX8_serve_51 : decode cX8_serve 51 = .ok (.aload_n 0, 1) := by decide +kernel
theorem dX8_serve_52 : decode cX8_serve 52 = .ok (.iconst 3, 1) := by decide +kernel
theorem dX8_serve_53 : decode cX8_serve 53 = .ok (.iload_n 1, 1) := by decide +kernel
theorem dX8_serve_54 : decode cX8_serve 54 = .ok (.iload 4, 2) := by decide +kernel
theorem dX8_serve_56 : decode cX8_serve 56 = .ok (.iconst 1, 1) := by decide +kernel
theorem dX8_serve_57 : decode cX8_serve 57 = .ok (.if_icmp .ne 7, 3) := by decide +kernel
theorem dX8_serve_60 : decode cX8_serve 60 = .ok (.iconst 0, 1) := by decide +kernel
theorem dX8_serve_61 : decode cX8_serve 61 = .ok (.goto 4, 3) := by decide +kernel
theorem dX8_serve_64 : decode cX8_serve 64 = .ok (.iload_n 3, 1) := by decide +kernel
theorem dX8_serve_65 : decode cX8_serve 65 = .ok (.invokevirtual 224, 3) := by decide +kernel
theorem dX8_serve_68 : decode cX8_serve 68 = .ok (.istore_n 2, 1) := by decide +kernel
theorem dX8_serve_69 : decode cX8_serve 69 = .ok (.goto (-61), 3) := by decide +kernel
theorem dX8_serve_72 : decode cX8_serve 72 = .ok (.return_, 1) := by decide +kernel
theorem dX8_steps_0 : decode cX8_steps 0 = .ok (.aload_n 0, 1) := by decide +kernel
theorem dX8_steps_1 : decode cX8_steps 1 = .ok (.iload_n 1, 1) := by decide +kernel
theorem dX8_steps_2 : decode cX8_steps 2 = .ok (.invokevirtual 152, 3) := by decide +kernel
theorem dX8_steps_5 : decode cX8_steps 5 = .ok (.ifCond .ne 6, 3) := by decide +kernel
theorem dX8_steps_8 : decode cX8_steps 8 = .ok (.bipush (-2), 2) := by decide +kernel
theorem dX8_steps_10 : decode cX8_steps 10 = .ok (.ireturn, 1) := by decide +kernel
theorem dX8_steps_11 : decode cX8_steps 11 = .ok (.aload_n 0, 1) := by decide +kernel
theorem dX8_steps_12 : decode cX8_steps 12 = .ok (.iload_n 1, 1) := by decide +kernel
theorem dX8_steps_13 : decode cX8_steps 13 = .ok (.invokevirtual 173, 3) := by decide +kernel
theorem dX8_steps_16 : decode cX8_steps 16 = .ok (.ifCond .ne 6, 3) := by decide +kernel
theorem dX8_steps_19 : decode cX8_steps 19 = .ok (.bipush (-3), 2) := by decide +kernel
theorem dX8_steps_21 : decode cX8_steps 21 = .ok (.ireturn, 1) := by decide +kernel
theorem dX8_steps_22 : decode cX8_steps 22 = .ok (.aload_n 0, 1) := by decide +kernel
theorem dX8_steps_23 : decode cX8_steps 23 = .ok (.getfield 54, 3) := by decide +kernel
theorem dX8_steps_26 : decode cX8_steps 26 = .ok (.iload_n 1, 1) := by decide +kernel
theorem dX8_steps_27 : decode cX8_steps 27 = .ok (.iaload, 1) := by decide +kernel
theorem dX8_steps_28 : decode cX8_steps 28 = .ok (.istore_n 3, 1) := by decide +kernel
theorem dX8_steps_29 : decode cX8_steps 29 = .ok (.aload_n 0, 1) := by decide +kernel
theorem dX8_steps_30 : decode cX8_steps 30 = .ok (.getfield 54, 3) := by decide +kernel
theorem dX8_steps_33 : decode cX8_steps 33 = .ok (.iload_n 1, 1) := by decide +kernel
theorem dX8_steps_34 : decode cX8_steps 34 = .ok (.iconst 0, 1) := by decide +kernel
theorem dX8_steps_35 : decode cX8_steps 35 = .ok (.iastore, 1) := by decide +kernel
theorem dX8_steps_36 : decode cX8_steps 36 = .ok (.aload_n 0, 1) := by decide +kernel
theorem dX8_steps_37 : decode cX8_steps 37 = .ok (.iload_n 2, 1) := by decide +kernel
theorem dX8_steps_38 : decode cX8_steps 38 = .ok (.bipush 12, 2) := by decide +kernel
theorem dX8_steps_40 : decode cX8_steps 40 = .ok (.invokevirtual 206, 3) := by decide +kernel
theorem dX8_steps_43 : decode cX8_steps 43 = .ok (.istore 4, 2) := by decide +kernel
theorem dX8_steps_45 : decode cX8_steps 45 = .ok (.iload 4, 2) := by decide +kernel
theorem dX8_steps_47 : decode cX8_steps 47 = .ok (.iconst (-1), 1) := by decide +kernel
theorem dX8_steps_48 : decode cX8_steps 48 = .ok (.if_icmp .eq 11, 3) := by decide +kernel
theorem dX8_steps_51 : decode cX8_steps 51 = .ok (.iload_n 3, 1) := by decide +kernel
theorem dX8_steps_52 : decode cX8_steps 52 = .ok (.ifCond .le 7, 3) := by decide +kernel
theorem dX8_steps_55 : decode cX8_steps 55 = .ok (.iconst 1, 1) := by decide +kernel
theorem dX8_steps_56 : decode cX8_steps 56 = .ok (.goto 4, 3) := by decide +kernel
theorem dX8_steps_59 : decode cX8_steps 59 = .ok (.iconst 0, 1) := by decide +kernel
theorem dX8_steps_60 : decode cX8_steps 60 = .ok (.istore 5, 2) := by decide +kernel
theorem dX8_steps_62 : decode cX8_steps 62 = .ok (.iconst 0, 1) := by decide +kernel
theorem dX8_steps_63 : decode cX8_steps 63 = .ok (.istore 6, 2) := by decide +kernel
theorem dX8_steps_65 : decode cX8_steps 65 = .ok (.iconst 0, 1) := by decide +kernel
theorem dX8_steps_66 : decode cX8_steps 66 = .ok (.istore 7, 2) := by decide +kernel
theorem dX8_steps_68 : decode cX8_steps 68 = .ok (.iload 7, 2) := by decide +kernel
theorem dX8_steps_70 : decode cX8_steps 70 = .ok (.iload_n 3, 1) := by decide +kernel
theorem dX8_steps_71 : decode cX8_steps 71 = .ok (.if_icmp .ge 112, 3) := by decide +kernel
theorem dX8_steps_74 : decode cX8_steps 74 = .ok (.bipush 8, 2) := by decide +kernel
theorem dX8_steps_76 : decode cX8_steps 76 = .ok (.iload_n 1, 1) := by decide +kernel
theorem dX8_steps_77 : decode cX8_steps 77 = .ok (.imul, 1) := by decide +kernel
theorem dX8_steps_78 : decode cX8_steps 78 = .ok (.iload 7, 2) := by decide +kernel
theorem dX8_steps_80 : decode cX8_steps 80 = .ok (.iadd, 1) := by decide +kernel
theorem dX8_steps_81 : decode cX8_steps 81 = .ok (.istore 8, 2) := by decide +kernel
theorem dX8_steps_83 : decode cX8_steps 83 = .ok (.aload_n 0, 1) := by decide +kernel
theorem dX8_steps_84 : decode cX8_steps 84 = .ok (.getfield 69, 3) := by decide +kernel
theorem dX8_steps_87 : decode cX8_steps 87 = .ok (.iload 8, 2) := by decide +kernel
theorem dX8_steps_89 : decode cX8_steps 89 = .ok (.aload_n 0, 1) := by decide +kernel
theorem dX8_steps_90 : decode cX8_steps 90 = .ok (.getfield 57, 3) := by decide +kernel
theorem dX8_steps_93 : decode cX8_steps 93 = .ok (.iload 8, 2) := by decide +kernel
theorem dX8_steps_95 : decode cX8_steps 95 = .ok (.iaload, 1) := by decide +kernel
theorem dX8_steps_96 : decode cX8_steps 96 = .ok (.iastore, 1) := by decide +kernel
theorem dX8_steps_97 : decode cX8_steps 97 = .ok (.aload_n 0, 1) := by decide +kernel
theorem dX8_steps_98 : decode cX8_steps 98 = .ok (.getfield 72, 3) := by decide +kernel
theorem dX8_steps_101 : decode cX8_steps 101 = .ok (.iload 8, 2) := by decide +kernel
theorem dX8_steps_103 : decode cX8_steps 103 = .ok (.aload_n 0, 1) := by decide +kernel
theorem dX8_steps_104 : decode cX8_steps 104 = .ok (.getfield 60, 3) := by decide +kernel
theorem dX8_steps_107 : decode cX8_steps 107 = .ok (.iload 8, 2) := by decide +kernel
theorem dX8_steps_109 : decode cX8_steps 109 = .ok (.iaload, 1) := by decide +kernel
theorem dX8_steps_110 : decode cX8_steps 110 = .ok (.iastore, 1) := by decide +kernel
theorem dX8_steps_111 : decode cX8_steps 111 = .ok (.aload_n 0, 1) := by decide +kernel
theorem dX8_steps_112 : decode cX8_steps 112 = .ok (.getfield 75, 3) := by decide +kernel
theorem dX8_steps_115 : decode cX8_steps 115 = .ok (.iload 8, 2) := by decide +kernel
theorem dX8_steps_117 : decode cX8_steps 117 = .ok (.aload_n 0, 1) := by decide +kernel
theorem dX8_steps_118 : decode cX8_steps 118 = .ok (.getfield 63, 3) := by decide +kernel
theorem dX8_steps_121 : decode cX8_steps 121 = .ok (.iload 8, 2) := by decide +kernel
theorem dX8_steps_123 : decode cX8_steps 123 = .ok (.iaload, 1) := by decide +kernel
theorem dX8_steps_124 : decode cX8_steps 124 = .ok (.iastore, 1) := by decide +kernel
theorem dX8_steps_125 : decode cX8_steps 125 = .ok (.iload 5, 2) := by decide +kernel
theorem dX8_steps_127 : decode cX8_steps 127 = .ok (.ifCond .eq 27, 3) := by decide +kernel
theorem dX8_steps_130 : decode cX8_steps 130 = .ok (.aload_n 0, 1) := by decide +kernel
theorem dX8_steps_131 : decode cX8_steps 131 = .ok (.getfield 69, 3) := by decide +kernel
theorem dX8_steps_134 : decode cX8_steps 134 = .ok (.iload 8, 2) := by decide +kernel
theorem dX8_steps_136 : decode cX8_steps 136 = .ok (.iaload, 1) := by decide +kernel
theorem dX8_steps_137 : decode cX8_steps 137 = .ok (.aload_n 0, 1) := by decide +kernel
theorem dX8_steps_138 : decode cX8_steps 138 = .ok (.getfield 120, 3) := by decide +kernel
theorem dX8_steps_141 : decode cX8_steps 141 = .ok (.iload 4, 2) := by decide +kernel
theorem dX8_steps_143 : decode cX8_steps 143 = .ok (.bipush 12, 2) := by decide +kernel
theorem dX8_steps_145 : decode cX8_steps 145 = .ok (.isub, 1) := by decide +kernel
theorem dX8_steps_146 : decode cX8_steps 146 = .ok (.iaload, 1) := by decide +kernel
theorem dX8_steps_147 : decode cX8_steps 147 = .ok (.if_icmp .ge 7, 3) := by decide +kernel
theorem dX8_steps_150 : decode cX8_steps 150 = .ok (.iconst 1, 1) := by decide +kernel
theorem dX8_steps_151 : decode cX8_steps 151 = .ok (.goto 4, 3) := by decide +kernel
theorem dX8_steps_154 : decode cX8_steps 154 = .ok (.iconst 0, 1) := by decide +kernel
theorem dX8_steps_155 : decode cX8_steps 155 = .ok (.istore 5, 2) := by decide +kernel
theorem dX8_steps_157 : decode cX8_steps 157 = .ok (.iload 6, 2) := by decide +kernel
theorem dX8_steps_159 : decode cX8_steps 159 = .ok (.aload_n 0, 1) := by decide +kernel
theorem dX8_steps_160 : decode cX8_steps 160 = .ok (.getfield 72, 3) := by decide +kernel
theorem dX8_steps_163 : decode cX8_steps 163 = .ok (.iload 8, 2) := by decide +kernel
theorem dX8_steps_165 : decode cX8_steps 165 = .ok (.iaload, 1) := by decide +kernel
theorem dX8_steps_166 : decode cX8_steps 166 = .ok (.ifCond .eq 7, 3) := by decide +kernel
theorem dX8_steps_169 : decode cX8_steps 169 = .ok (.iconst 2, 1) := by decide +kernel
theorem dX8_steps_170 : decode cX8_steps 170 = .ok (.goto 4, 3) := by decide +kernel
theorem dX8_steps_173 : decode cX8_steps 173 = .ok (.iconst 0, 1) := by decide +kernel
theorem dX8_steps_174 : decode cX8_steps 174 = .ok (.ior, 1) := by decide +kernel
theorem dX8_steps_175 : decode cX8_steps 175 = .ok (.istore 6, 2) := by decide +kernel
theorem dX8_steps_177 : decode cX8_steps 177 = .ok (.iinc 7 1, 3) := by decide +kernel
theorem dX8_steps_180 : decode cX8_steps 180 = .ok (.goto (-112), 3) := by decide +kernel
theorem dX8_steps_183 : decode cX8_steps 183 = .ok (.aload_n 0, 1) := by decide +kernel
theorem dX8_steps_184 : decode cX8_steps 184 = .ok (.getfield 66, 3) := by decide +kernel
theorem dX8_steps_187 : decode cX8_steps 187 = .ok (.iload_n 1, 1) := by decide +kernel
theorem dX8_steps_188 : decode cX8_steps 188 = .ok (.iload_n 3, 1) := by decide +kernel
theorem dX8_steps_189 : decode cX8_steps 189 = .ok (.iastore, 1) := by decide +kernel
theorem dX8_steps_190 : decode cX8_steps 190 = .ok (.iload 5, 2) := by decide +kernel
theorem dX8_steps_192 : decode cX8_steps 192 = .ok (.ifCond .ne 11, 3) := by decide +kernel
theorem dX8_steps_195 : decode cX8_steps 195 = .ok (.aload_n 0, 1) := by decide +kernel
theorem dX8_steps_196 : decode cX8_steps 196 = .ok (.iload_n 1, 1) := by decide +kernel
theorem dX8_steps_197 : decode cX8_steps 197 = .ok (.bipush (-5), 2) := by decide +kernel
theorem dX8_steps_199 : decode cX8_steps 199 = .ok (.invokevirtual 180, 3) := by decide +kernel
theorem dX8_steps_202 : decode cX8_steps 202 = .ok (.ireturn, 1) := by decide +kernel
theorem dX8_steps_203 : decode cX8_steps 203 = .ok (.aload_n 0, 1) := by decide +kernel
theorem dX8_steps_204 : decode cX8_steps 204 = .ok (.iload_n 1, 1) := by decide +kernel
theorem dX8_steps_205 : decode cX8_steps 205 = .ok (.iload 4, 2) := by decide +kernel
theorem dX8_steps_207 : decode cX8_steps 207 = .ok (.iload 6, 2) := by decide +kernel
theorem dX8_steps_209 : decode cX8_steps 209 = .ok (.ifCond .ne 7, 3) := by decide +kernel
theorem dX8_steps_212 : decode cX8_steps 212 = .ok (.iconst 4, 1) := by decide +kernel
theorem dX8_steps_213 : decode cX8_steps 213 = .ok (.goto 4, 3) := by decide +kernel
theorem dX8_steps_216 : decode cX8_steps 216 = .ok (.iconst 2, 1) := by decide +kernel
theorem dX8_steps_217 : decode cX8_steps 217 = .ok (.invokevirtual 190, 3) := by decide +kernel
theorem dX8_steps_220 : decode cX8_steps 220 = .ok (.ifCond .ne 11, 3) := by decide +kernel
theorem dX8_steps_223 : decode cX8_steps 223 = .ok (.aload_n 0, 1) := by decide +kernel
theorem dX8_steps_224 : decode cX8_steps 224 = .ok (.iload_n 1, 1) := by decide +kernel
theorem dX8_steps_225 : decode cX8_steps 225 = .ok (.bipush (-6), 2) := by decide +kernel
theorem dX8_steps_227 : decode cX8_steps 227 = .ok (.invokevirtual 180, 3) := by decide +kernel
theorem dX8_steps_230 : decode cX8_steps 230 = .ok (.ireturn, 1) := by decide +kernel
theorem dX8_steps_231 : decode cX8_steps 231 = .ok (.aload_n 0, 1) := by decide +kernel
theorem dX8_steps_232 : decode cX8_steps 232 = .ok (.iload_n 1, 1) := by decide +kernel
theorem dX8_steps_233 : decode cX8_steps 233 = .ok (.iload 4, 2) := by decide +kernel
theorem dX8_steps_235 : decode cX8_steps 235 = .ok (.bipush 12, 2) := by decide +kernel
theorem dX8_steps_237 : decode cX8_steps 237 = .ok (.isub, 1) := by decide +kernel
theorem dX8_steps_238 : decode cX8_steps 238 = .ok (.invokevirtual 260, 3) := by decide +kernel
theorem dX8_steps_241 : decode cX8_steps 241 = .ok (.istore 7, 2) := by decide +kernel
theorem dX8_steps_243 : decode cX8_steps 243 = .ok (.iload 7, 2) := by decide +kernel
theorem dX8_steps_245 : decode cX8_steps 245 = .ok (.iconst 3, 1) := by decide +kernel
theorem dX8_steps_246 : decode cX8_steps 246 = .ok (.if_icmp .ne 11, 3) := by decide +kernel
theorem dX8_steps_249 : decode cX8_steps 249 = .ok (.aload_n 0, 1) := by decide +kernel
theorem dX8_steps_250 : decode cX8_steps 250 = .ok (.iload_n 1, 1) := by decide +kernel
theorem dX8_steps_251 : decode cX8_steps 251 = .ok (.bipush (-15), 2) := by decide +kernel
theorem dX8_steps_253 : decode cX8_steps 253 = .ok (.invokevirtual 180, 3) := by decide +kernel
theorem dX8_steps_256 : decode cX8_steps 256 = .ok (.ireturn, 1) := by decide +kernel
theorem dX8_steps_257 : decode cX8_steps 257 = .ok (.iload 7, 2) := by decide +kernel
theorem dX8_steps_259 : decode cX8_steps 259 = .ok (.iconst 2, 1) := by decide +kernel
theorem dX8_steps_260 : decode cX8_steps 260 = .ok (.if_icmp .ne 52, 3) := by decide +kernel
theorem dX8_steps_263 : decode cX8_steps 263 = .ok (.aload_n 0, 1) := by decide +kernel
theorem dX8_steps_264 : decode cX8_steps 264 = .ok (.getfield 75, 3) := by decide +kernel
theorem dX8_steps_267 : decode cX8_steps 267 = .ok (.bipush 8, 2) := by decide +kernel
theorem dX8_steps_269 : decode cX8_steps 269 = .ok (.iload_n 1, 1) := by decide +kernel
theorem dX8_steps_270 : decode cX8_steps 270 = .ok (.imul, 1) := by decide +kernel
theorem dX8_steps_271 : decode cX8_steps 271 = .ok (.aload_n 0, 1) := by decide +kernel
theorem dX8_steps_272 : decode cX8_steps 272 = .ok (.getfield 51, 3) := by decide +kernel
theorem dX8_steps_275 : decode cX8_steps 275 = .ok (.iload_n 1, 1) := by decide +kernel
theorem dX8_steps_276 : decode cX8_steps 276 = .ok (.iaload, 1) := by decide +kernel
theorem dX8_steps_277 : decode cX8_steps 277 = .ok (.iadd, 1) := by decide +kernel
theorem dX8_steps_278 : decode cX8_steps 278 = .ok (.iaload, 1) := by decide +kernel
theorem dX8_steps_279 : decode cX8_steps 279 = .ok (.iconst 1, 1) := by decide +kernel
theorem dX8_steps_280 : decode cX8_steps 280 = .ok (.iand, 1) := by decide +kernel
theorem dX8_steps_281 : decode cX8_steps 281 = .ok (.iconst 1, 1) := by decide +kernel
theorem dX8_steps_282 : decode cX8_steps 282 = .ok (.if_icmp .ne 11, 3) := by decide +kernel
theorem dX8_steps_285 : decode cX8_steps 285 = .ok (.aload_n 0, 1) := by decide +kernel
theorem dX8_steps_286 : decode cX8_steps 286 = .ok (.iload_n 1, 1) := by decide +kernel
theorem dX8_steps_287 : decode cX8_steps 287 = .ok (.bipush (-11), 2) := by decide +kernel
theorem dX8_steps_289 : decode cX8_steps 289 = .ok (.invokevirtual 180, 3) := by decide +kernel
theorem dX8_steps_292 : decode cX8_steps 292 = .ok (.ireturn, 1) := by decide +kernel
theorem dX8_steps_293 : decode cX8_steps 293 = .ok (.aload_n 0, 1) := by decide +kernel
theorem dX8_steps_294 : decode cX8_steps 294 = .ok (.iload_n 1, 1) := by decide +kernel
theorem dX8_steps_295 : decode cX8_steps 295 = .ok (.iconst 3, 1) := by decide +kernel
theorem dX8_steps_296 : decode cX8_steps 296 = .ok (.iload 4, 2) := by decide +kernel
theorem dX8_steps_298 : decode cX8_steps 298 = .ok (.bipush 12, 2) := by decide +kernel
theorem dX8_steps_300 : decode cX8_steps 300 = .ok (.isub, 1) := by decide +kernel
theorem dX8_steps_301 : decode cX8_steps 301 = .ok (.invokevirtual 244, 3) := by decide +kernel
theorem dX8_steps_304 : decode cX8_steps 304 = .ok (.aload_n 0, 1) := by decide +kernel
theorem dX8_steps_305 : decode cX8_steps 305 = .ok (.iload_n 1, 1) := by decide +kernel
theorem dX8_steps_306 : decode cX8_steps 306 = .ok (.bipush (-10), 2) := by decide +kernel
theorem dX8_steps_308 : decode cX8_steps 308 = .ok (.invokevirtual 180, 3) := by decide +kernel
theorem dX8_steps_311 : decode cX8_steps 311 = .ok (.ireturn, 1) := by decide +kernel
theorem dX8_steps_312 : decode cX8_steps 312 = .ok (.aload_n 0, 1) := by decide +kernel
theorem dX8_steps_313 : decode cX8_steps 313 = .ok (.getfield 20, 3) := by decide +kernel
theorem dX8_steps_316 : decode cX8_steps 316 = .ok (.iload_n 1, 1) := by decide +kernel
theorem dX8_steps_317 : decode cX8_steps 317 = .ok (.iconst 0, 1) := by decide +kernel
theorem dX8_steps_318 : decode cX8_steps 318 = .ok (.iastore, 1) := by decide +kernel
theorem dX8_steps_319 : decode cX8_steps 319 = .ok (.iload 7, 2) := by decide +kernel
theorem dX8_steps_321 : decode cX8_steps 321 = .ok (.iconst 1, 1) := by decide +kernel
theorem dX8_steps_322 : decode cX8_steps 322 = .ok (.if_icmp .ne 12, 3) := by decide +kernel
theorem dX8_steps_325 : decode cX8_steps 325 = .ok (.aload_n 0, 1) := by decide +kernel
theorem dX8_steps_326 : decode cX8_steps 326 = .ok (.iload 4, 2) := by decide +kernel
theorem dX8_steps_328 : decode cX8_steps 328 = .ok (.bipush 12, 2) := by decide +kernel
theorem dX8_steps_330 : decode cX8_steps 330 = .ok (.isub, 1) := by decide +kernel
theorem dX8_steps_331 : decode cX8_steps 331 = .ok (.invokevirtual 160, 3) := by decide +kernel
theorem dX8_steps_334 : decode cX8_steps 334 = .ok (.iconst 0, 1) := by decide +kernel
theorem dX8_steps_335 : decode cX8_steps 335 = .ok (.ireturn, 1) := by decide +kernel
theorem dX8_value_0 : decode cX8_value 0 = .ok (.aload_n 0, 1) := by decide +kernel
theorem dX8_value_1 : decode cX8_value 1 = .ok (.iload_n 1, 1) := by decide +kernel
theorem dX8_value_2 : decode cX8_value 2 = .ok (.invokevirtual 152, 3) := by decide +kernel
theorem dX8_value_5 : decode cX8_value 5 = .ok (.ifCond .ne 6, 3) := by decide +kernel
theorem dX8_value_8 : decode cX8_value 8 = .ok (.bipush (-2), 2) := by decide +kernel
theorem dX8_value_10 : decode cX8_value 10 = .ok (.ireturn, 1) := by decide +kernel
theorem dX8_value_11 : decode cX8_value 11 = .ok (.aload_n 0, 1) := by decide +kernel
theorem dX8_value_12 : decode cX8_value 12 = .ok (.iload_n 1, 1) := by decide +kernel
theorem dX8_value_13 : decode cX8_value 13 = .ok (.invokevirtual 173, 3) := by decide +kernel
theorem dX8_value_16 : decode cX8_value 16 = .ok (.ifCond .ne 6, 3) := by decide +kernel
theorem dX8_value_19 : decode cX8_value 19 = .ok (.bipush (-3), 2) := by decide +kernel
theorem dX8_value_21 : decode cX8_value 21 = .ok (.ireturn, 1) := by decide +kernel
theorem dX8_value_22 : decode cX8_value 22 = .ok (.iload 4, 2) := by decide +kernel
theorem dX8_value_24 : decode cX8_value 24 = .ok (.i2l, 1) := by decide +kernel
theorem dX8_value_25 : decode cX8_value 25 = .ok (.lconst 0, 1) := by decide +kernel
theorem dX8_value_26 : decode cX8_value 26 = .ok (.ldc2_w 256, 3) := by decide +kernel
theorem dX8_value_29 : decode cX8_value 29 = .ok (.invokestatic 142, 3) := by decide +kernel
theorem dX8_value_32 : decode cX8_value 32 = .ok (.ifCond .ne 11, 3) := by decide +kernel
theorem dX8_value_35 : decode cX8_value 35 = .ok (.aload_n 0, 1) := by decide +kernel
theorem dX8_value_36 : decode cX8_value 36 = .ok (.iload_n 1, 1) := by decide +kernel
theorem dX8_value_37 : decode cX8_value 37 = .ok (.bipush (-4), 2) := by decide +kernel
theorem dX8_value_39 : decode cX8_value 39 = .ok (.invokevirtual 180, 3) := by decide +kernel
theorem dX8_value_42 : decode cX8_value 42 = .ok (.ireturn, 1) := by decide +kernel
theorem dX8_value_43 : decode cX8_value 43 = .ok (.aload_n 0, 1) := by decide +kernel
theorem dX8_value_44 : decode cX8_value 44 = .ok (.iload_n 2, 1) := by decide +kernel
theorem dX8_value_45 : decode cX8_value 45 = .ok (.bipush 12, 2) := by decide +kernel
theorem dX8_value_47 : decode cX8_value 47 = .ok (.invokevirtual 206, 3) := by decide +kernel
theorem dX8_value_50 : decode cX8_value 50 = .ok (.istore 5, 2) := by decide +kernel
theorem dX8_value_52 : decode cX8_value 52 = .ok (.iload 5, 2) := by decide +kernel
theorem dX8_value_54 : decode cX8_value 54 = .ok (.iconst (-1), 1) := by decide +kernel
theorem dX8_value_55 : decode cX8_value 55 = .ok (.if_icmp .eq 25, 3) := by decide +kernel
theorem dX8_value_58 : decode cX8_value 58 = .ok (.iload_n 3, 1) := by decide +kernel
theorem dX8_value_59 : decode cX8_value 59 = .ok (.i2l, 1) := by decide +kernel
theorem dX8_value_60 : decode cX8_value 60 = .ok (.lconst 0, 1) := by decide +kernel
theorem dX8_value_61 : decode cX8_value 61 = .ok (.aload_n 0, 1) := by decide +kernel
theorem dX8_value_62 : decode cX8_value 62 = .ok (.getfield 120, 3) := by decide +kernel
theorem dX8_value_65 : decode cX8_value 65 = .ok (.iload 5, 2) := by decide +kernel
theorem dX8_value_67 : decode cX8_value 67 = .ok (.bipush 12, 2) := by decide +kernel
theorem dX8_value_69 : decode cX8_value 69 = .ok (.isub, 1) := by decide +kernel
theorem dX8_value_70 : decode cX8_value 70 = .ok (.iaload, 1) := by decide +kernel
theorem dX8_value_71 : decode cX8_value 71 = .ok (.iconst 1, 1) := by decide +kernel
theorem dX8_value_72 : decode cX8_value 72 = .ok (.isub, 1) := by decide +kernel
theorem dX8_value_73 : decode cX8_value 73 = .ok (.i2l, 1) := by decide +kernel
theorem dX8_value_74 : decode cX8_value 74 = .ok (.invokestatic 142, 3) := by decide +kernel
theorem dX8_value_77 : decode cX8_value 77 = .ok (.ifCond .ne 11, 3) := by decide +kernel
theorem dX8_value_80 : decode cX8_value 80 = .ok (.aload_n 0, 1) := by decide +kernel
theorem dX8_value_81 : decode cX8_value 81 = .ok (.iload_n 1, 1) := by decide +kernel
theorem dX8_value_82 : decode cX8_value 82 = .ok (.bipush (-5), 2) := by decide +kernel
theorem dX8_value_84 : decode cX8_value 84 = .ok (.invokevirtual 180, 3) := by decide +kernel
theorem dX8_value_87 : decode cX8_value 87 = .ok (.ireturn, 1) := by decide +kernel
theorem dX8_value_88 : decode cX8_value 88 = .ok (.aload_n 0, 1) := by decide +kernel
theorem dX8_value_89 : decode cX8_value 89 = .ok (.iload_n 1, 1) := by decide +kernel
theorem dX8_value_90 : decode cX8_value 90 = .ok (.iload 5, 2) := by decide +kernel
theorem dX8_value_92 : decode cX8_value 92 = .ok (.iconst 2, 1) := by decide +kernel
theorem dX8_value_93 : decode cX8_value 93 = .ok (.invokevirtual 190, 3) := by decide +kernel
theorem dX8_value_96 : decode cX8_value 96 = .ok (.ifCond .ne 11, 3) := by decide +kernel
theorem dX8_value_99 : decode cX8_value 99 = .ok (.aload_n 0, 1) := by decide +kernel
theorem dX8_value_100 : decode cX8_value 100 = .ok (.iload_n 1, 1) := by decide +kernel
theorem dX8_value_101 : decode cX8_value 101 = .ok (.bipush (-6), 2) := by decide +kernel
theorem dX8_value_103 : decode cX8_value 103 = .ok (.invokevirtual 180, 3) := by decide +kernel
theorem dX8_value_106 : decode cX8_value 106 = .ok (.ireturn, 1) := by decide +kernel
theorem dX8_value_107 : decode cX8_value 107 = .ok (.bipush 8, 2) := by decide +kernel
theorem dX8_value_109 : decode cX8_value 109 = .ok (.iload 5, 2) := by decide +kernel
theorem dX8_value_111 : decode cX8_value 111 = .ok (.bipush 12, 2) := by decide +kernel
theorem dX8_value_113 : decode cX8_value 113 = .ok (.isub, 1) := by decide +kernel
theorem dX8_value_114 : decode cX8_value 114 = .ok (.imul, 1) := by decide +kernel
theorem dX8_value_115 : decode cX8_value 115 = .ok (.iload_n 3, 1) := by decide +kernel
theorem dX8_value_116 : decode cX8_value 116 = .ok (.iadd, 1) := by decide +kernel
theorem dX8_value_117 : decode cX8_value 117 = .ok (.istore 6, 2) := by decide +kernel
theorem dX8_value_119 : decode cX8_value 119 = .ok (.aload_n 0, 1) := by decide +kernel
theorem dX8_value_120 : decode cX8_value 120 = .ok (.getfield 123, 3) := by decide +kernel
theorem dX8_value_123 : decode cX8_value 123 = .ok (.iload 6, 2) := by decide +kernel
theorem dX8_value_125 : decode cX8_value 125 = .ok (.iaload, 1) := by decide +kernel
theorem dX8_value_126 : decode cX8_value 126 = .ok (.iload 4, 2) := by decide +kernel
theorem dX8_value_128 : decode cX8_value 128 = .ok (.if_icmp .eq 7, 3) := by decide +kernel
theorem dX8_value_131 : decode cX8_value 131 = .ok (.iconst 1, 1) := by decide +kernel
theorem dX8_value_132 : decode cX8_value 132 = .ok (.goto 4, 3) := by decide +kernel
theorem dX8_value_135 : decode cX8_value 135 = .ok (.iconst 0, 1) := by decide +kernel
theorem dX8_value_136 : decode cX8_value 136 = .ok (.istore 7, 2) := by decide +kernel
theorem dX8_value_138 : decode cX8_value 138 = .ok (.aload_n 0, 1) := by decide +kernel
theorem dX8_value_139 : decode cX8_value 139 = .ok (.getfield 123, 3) := by decide +kernel
theorem dX8_value_142 : decode cX8_value 142 = .ok (.iload 6, 2) := by decide +kernel
theorem dX8_value_144 : decode cX8_value 144 = .ok (.iload 4, 2) := by decide +kernel
theorem dX8_value_146 : decode cX8_value 146 = .ok (.iastore, 1) := by decide +kernel
theorem dX8_value_147 : decode cX8_value 147 = .ok (.aload_n 0, 1) := by decide +kernel
theorem dX8_value_148 : decode cX8_value 148 = .ok (.getfield 126, 3) := by decide +kernel
theorem dX8_value_151 : decode cX8_value 151 = .ok (.iload 6, 2) := by decide +kernel
theorem dX8_value_153 : decode cX8_value 153 = .ok (.iload_n 1, 1) := by decide +kernel
theorem dX8_value_154 : decode cX8_value 154 = .ok (.iastore, 1) := by decide +kernel
theorem dX8_value_155 : decode cX8_value 155 = .ok (.iconst 0, 1) := by decide +kernel
theorem dX8_value_156 : decode cX8_value 156 = .ok (.istore 8, 2) := by decide +kernel
theorem dX8_value_158 : decode cX8_value 158 = .ok (.iload 8, 2) := by decide +kernel
theorem dX8_value_160 : decode cX8_value 160 = .ok (.bipush 16, 2) := by decide +kernel
theorem dX8_value_162 : decode cX8_value 162 = .ok (.if_icmp .ge 23, 3) := by decide +kernel
theorem dX8_value_165 : decode cX8_value 165 = .ok (.aload_n 0, 1) := by decide +kernel
theorem dX8_value_166 : decode cX8_value 166 = .ok (.getfield 129, 3) := by decide +kernel
theorem dX8_value_169 : decode cX8_value 169 = .ok (.bipush 96, 2) := by decide +kernel
theorem dX8_value_171 : decode cX8_value 171 = .ok (.iload 8, 2) := by decide +kernel
theorem dX8_value_173 : decode cX8_value 173 = .ok (.imul, 1) := by decide +kernel
theorem dX8_value_174 : decode cX8_value 174 = .ok (.iload 6, 2) := by decide +kernel
theorem dX8_value_176 : decode cX8_value 176 = .ok (.iadd, 1) := by decide +kernel
theorem dX8_value_177 : decode cX8_value 177 = .ok (.iconst 0, 1) := by decide +kernel
theorem dX8_value_178 : decode cX8_value 178 = .ok (.iastore, 1) := by decide +kernel
theorem dX8_value_179 : decode cX8_value 179 = .ok (.iinc 8 1, 3) := by decide +kernel
theorem dX8_value_182 : decode cX8_value 182 = .ok (.goto (-24), 3) := by decide +kernel
theorem dX8_value_185 : decode cX8_value 185 = .ok (.aload_n 0, 1) := by decide +kernel
theorem dX8_value_186 : decode cX8_value 186 = .ok (.getfield 20, 3) := by decide +kernel
theorem dX8_value_189 : decode cX8_value 189 = .ok (.iload_n 1, 1) := by decide +kernel
theorem dX8_value_190 : decode cX8_value 190 = .ok (.iconst 0, 1) := by decide +kernel
theorem dX8_value_191 : decode cX8_value 191 = .ok (.iastore, 1) := by decide +kernel
theorem dX8_value_192 : decode cX8_value 192 = .ok (.iload 7, 2) := by decide +kernel
theorem dX8_value_194 : decode cX8_value 194 = .ok (.ifCond .eq 12, 3) := by decide +kernel
theorem dX8_value_197 : decode cX8_value 197 = .ok (.aload_n 0, 1) := by decide +kernel
theorem dX8_value_198 : decode cX8_value 198 = .ok (.iload 5, 2) := by decide +kernel
theorem dX8_value_200 : decode cX8_value 200 = .ok (.bipush 12, 2) := by decide +kernel
theorem dX8_value_202 : decode cX8_value 202 = .ok (.isub, 1) := by decide +kernel
theorem dX8_value_203 : decode cX8_value 203 = .ok (.invokevirtual 160, 3) := by decide +kernel
theorem dX8_value_206 : decode cX8_value 206 = .ok (.iconst 0, 1) := by decide +kernel
theorem dX8_value_207 : decode cX8_value 207 = .ok (.ireturn, 1) := by decide +kernel
theorem dX8_waiting_0 : decode cX8_waiting 0 = .ok (.iconst 0, 1) := by decide +kernel
theorem dX8_waiting_1 : decode cX8_waiting 1 = .ok (.istore_n 3, 1) := by decide +kernel
theorem dX8_waiting_2 : decode cX8_waiting 2 = .ok (.iconst 0, 1) := by decide +kernel
theorem dX8_waiting_3 : decode cX8_waiting 3 = .ok (.istore 4, 2) := by decide +kernel
theorem dX8_waiting_5 : decode cX8_waiting 5 = .ok (.iload 4, 2) := by decide +kernel
theorem dX8_waiting_7 : decode cX8_waiting 7 = .ok (.aload_n 0, 1) := by decide +kernel
theorem dX8_waiting_8 : decode cX8_waiting 8 = .ok (.getfield 138, 3) := by decide +kernel
theorem dX8_waiting_11 : decode cX8_waiting 11 = .ok (.if_icmp .ge 39, 3) := by decide +kernel
theorem dX8_waiting_14 : decode cX8_waiting 14 = .ok (.iload_n 3, 1) := by decide +kernel
theorem dX8_waiting_15 : decode cX8_waiting 15 = .ok (.aload_n 0, 1) := by decide +kernel
theorem dX8_waiting_16 : decode cX8_waiting 16 = .ok (.getfield 30, 3) := by decide +kernel
theorem dX8_waiting_19 : decode cX8_waiting 19 = .ok (.iload 4, 2) := by decide +kernel
theorem dX8_waiting_21 : decode cX8_waiting 21 = .ok (.iaload, 1) := by decide +kernel
theorem dX8_waiting_22 : decode cX8_waiting 22 = .ok (.iload_n 1, 1) := by decide +kernel
theorem dX8_waiting_23 : decode cX8_waiting 23 = .ok (.if_icmp .ne 18, 3) := by decide +kernel
theorem dX8_waiting_26 : decode cX8_waiting 26 = .ok (.aload_n 0, 1) := by decide +kernel
theorem dX8_waiting_27 : decode cX8_waiting 27 = .ok (.getfield 36, 3) := by decide +kernel
theorem dX8_waiting_30 : decode cX8_waiting 30 = .ok (.iload 4, 2) := by decide +kernel
theorem dX8_waiting_32 : decode cX8_waiting 32 = .ok (.iaload, 1) := by decide +kernel
theorem dX8_waiting_33 : decode cX8_waiting 33 = .ok (.iload_n 2, 1) := by decide +kernel
theorem dX8_waiting_34 : decode cX8_waiting 34 = .ok (.if_icmp .ne 7, 3) := by decide +kernel
theorem dX8_waiting_37 : decode cX8_waiting 37 = .ok (.iconst 1, 1) := by decide +kernel
theorem dX8_waiting_38 : decode cX8_waiting 38 = .ok (.goto 4, 3) := by decide +kernel
theorem dX8_waiting_41 : decode cX8_waiting 41 = .ok (.iconst 0, 1) := by decide +kernel
theorem dX8_waiting_42 : decode cX8_waiting 42 = .ok (.iadd, 1) := by decide +kernel
theorem dX8_waiting_43 : decode cX8_waiting 43 = .ok (.istore_n 3, 1) := by decide +kernel
theorem dX8_waiting_44 : decode cX8_waiting 44 = .ok (.iinc 4 1, 3) := by decide +kernel
theorem dX8_waiting_47 : decode cX8_waiting 47 = .ok (.goto (-42), 3) := by decide +kernel
theorem dX8_waiting_50 : decode cX8_waiting 50 = .ok (.iload_n 3, 1) := by decide +kernel
theorem dX8_waiting_51 : decode cX8_waiting 51 = .ok (.ireturn, 1) := by decide +kernel
theorem dX8_thing_0 : decode cX8_thing 0 = .ok (.iload_n 2, 1) := by decide +kernel
theorem dX8_thing_1 : decode cX8_thing 1 = .ok (.tableswitch 80 0 5 #[39, 45, 52, 59, 66, 73], 39) := by decide +kernel
theorem dX8_thing_40 : decode cX8_thing 40 = .ok (.aload_n 0, 1) := by decide +kernel
theorem dX8_thing_41 : decode cX8_thing 41 = .ok (.iload_n 1, 1) := by decide +kernel
theorem dX8_thing_42 : decode cX8_thing 42 = .ok (.invokevirtual 194, 3) := by decide +kernel
theorem dX8_thing_45 : decode cX8_thing 45 = .ok (.ireturn, 1) := by decide +kernel
theorem dX8_thing_46 : decode cX8_thing 46 = .ok (.aload_n 0, 1) := by decide +kernel
theorem dX8_thing_47 : decode cX8_thing 47 = .ok (.getfield 84, 3) := by decide +kernel
theorem dX8_thing_50 : decode cX8_thing 50 = .ok (.iload_n 1, 1) := by decide +kernel
theorem dX8_thing_51 : decode cX8_thing 51 = .ok (.iaload, 1) := by decide +kernel
theorem dX8_thing_52 : decode cX8_thing 52 = .ok (.ireturn, 1) := by decide +kernel
theorem dX8_thing_53 : decode cX8_thing 53 = .ok (.aload_n 0, 1) := by decide +kernel
theorem dX8_thing_54 : decode cX8_thing 54 = .ok (.getfield 87, 3) := by decide +kernel
theorem dX8_thing_57 : decode cX8_thing 57 = .ok (.iload_n 1, 1) := by decide +kernel
theorem dX8_thing_58 : decode cX8_thing 58 = .ok (.iaload, 1) := by decide +kernel
theorem dX8_thing_59 : decode cX8_thing 59 = .ok (.ireturn, 1) := by decide +kernel
theorem dX8_thing_60 : decode cX8_thing 60 = .ok (.aload_n 0, 1) := by decide +kernel
theorem dX8_thing_61 : decode cX8_thing 61 = .ok (.getfield 90, 3) := by decide +kernel
theorem dX8_thing_64 : decode cX8_thing 64 = .ok (.iload_n 1, 1) := by decide +kernel
theorem dX8_thing_65 : decode cX8_thing 65 = .ok (.iaload, 1) := by decide +kernel
theorem dX8_thing_66 : decode cX8_thing 66 = .ok (.ireturn, 1) := by decide +kernel
theorem dX8_thing_67 : decode cX8_thing 67 = .ok (.aload_n 0, 1) := by decide +kernel
theorem dX8_thing_68 : decode cX8_thing 68 = .ok (.getfield 93, 3) := by decide +kernel
theorem dX8_thing_71 : decode cX8_thing 71 = .ok (.iload_n 1, 1) := by decide +kernel
theorem dX8_thing_72 : decode cX8_thing 72 = .ok (.iaload, 1) := by decide +kernel
theorem dX8_thing_73 : decode cX8_thing 73 = .ok (.ireturn, 1) := by decide +kernel
theorem dX8_thing_74 : decode cX8_thing 74 = .ok (.aload_n 0, 1) := by decide +kernel
theorem dX8_thing_75 : decode cX8_thing 75 = .ok (.getfield 96, 3) := by decide +kernel
theorem dX8_thing_78 : decode cX8_thing 78 = .ok (.iload_n 1, 1) := by decide +kernel
theorem dX8_thing_79 : decode cX8_thing 79 = .ok (.iaload, 1) := by decide +kernel
theorem dX8_thing_80 : decode cX8_thing 80 = .ok (.ireturn, 1) := by decide +kernel
theorem dX8_thing_81 : decode cX8_thing 81 = .ok (.aload_n 0, 1) := by decide +kernel
theorem dX8_thing_82 : decode cX8_thing 82 = .ok (.getfield 99, 3) := by decide +kernel
theorem dX8_thing_85 : decode cX8_thing 85 = .ok (.iload_n 1, 1) := by decide +kernel
theorem dX8_thing_86 : decode cX8_thing 86 = .ok (.iaload, 1) := by decide +kernel
theorem dX8_thing_87 : decode cX8_thing 87 = .ok (.ireturn, 1) := by decide +kernel
theorem dX8_queueOf_0 : decode cX8_queueOf 0 = .ok (.iload_n 2, 1) := by decide +kernel
theorem dX8_queueOf_1 : decode cX8_queueOf 1 = .ok (.i2l, 1) := by decide +kernel
theorem dX8_queueOf_2 : decode cX8_queueOf 2 = .ok (.lconst 0, 1) := by decide +kernel
theorem dX8_queueOf_3 : decode cX8_queueOf 3 = .ok (.ldc2_w 263, 3) := by decide +kernel
theorem dX8_queueOf_6 : decode cX8_queueOf 6 = .ok (.invokestatic 142, 3) := by decide +kernel
theorem dX8_queueOf_9 : decode cX8_queueOf 9 = .ok (.ifCond .ne 6, 3) := by decide +kernel
theorem dX8_queueOf_12 : decode cX8_queueOf 12 = .ok (.bipush (-4), 2) := by decide +kernel
theorem dX8_queueOf_14 : decode cX8_queueOf 14 = .ok (.ireturn, 1) := by decide +kernel
theorem dX8_queueOf_15 : decode cX8_queueOf 15 = .ok (.iload_n 1, 1) := by decide +kernel
theorem dX8_queueOf_16 : decode cX8_queueOf 16 = .ok (.i2l, 1) := by decide +kernel
theorem dX8_queueOf_17 : decode cX8_queueOf 17 = .ok (.lconst 0, 1) := by decide +kernel
theorem dX8_queueOf_18 : decode cX8_queueOf 18 = .ok (.ldc2_w 263, 3) := by decide +kernel
theorem dX8_queueOf_21 : decode cX8_queueOf 21 = .ok (.invokestatic 142, 3) := by decide +kernel
theorem dX8_queueOf_24 : decode cX8_queueOf 24 = .ok (.ifCond .eq 12, 3) := by decide +kernel
theorem dX8_queueOf_27 : decode cX8_queueOf 27 = .ok (.aload_n 0, 1) := by decide +kernel
theorem dX8_queueOf_28 : decode cX8_queueOf 28 = .ok (.getfield 78, 3) := by decide +kernel
theorem dX8_queueOf_31 : decode cX8_queueOf 31 = .ok (.iload_n 1, 1) := by decide +kernel
theorem dX8_queueOf_32 : decode cX8_queueOf 32 = .ok (.baload, 1) := by decide +kernel
theorem dX8_queueOf_33 : decode cX8_queueOf 33 = .ok (.ifCond .ne 5, 3) := by decide +kernel
theorem dX8_queueOf_36 : decode cX8_queueOf 36 = .ok (.iconst (-1), 1) := by decide +kernel
theorem dX8_queueOf_37 : decode cX8_queueOf 37 = .ok (.ireturn, 1) := by decide +kernel
theorem dX8_queueOf_38 : decode cX8_queueOf 38 = .ok (.iload_n 2, 1) := by decide +kernel
theorem dX8_queueOf_39 : decode cX8_queueOf 39 = .ok (.tableswitch 68 7 11 #[33, 40, 47, 54, 61], 33) := by decide +kernel
theorem dX8_queueOf_72 : decode cX8_queueOf 72 = .ok (.aload_n 0, 1) := by decide +kernel
theorem dX8_queueOf_73 : decode cX8_queueOf 73 = .ok (.getfield 102, 3) := by decide +kernel
theorem dX8_queueOf_76 : decode cX8_queueOf 76 = .ok (.iload_n 1, 1) := by decide +kernel
theorem dX8_queueOf_77 : decode cX8_queueOf 77 = .ok (.iaload, 1) := by decide +kernel
theorem dX8_queueOf_78 : decode cX8_queueOf 78 = .ok (.ireturn, 1) := by decide +kernel
theorem dX8_queueOf_79 : decode cX8_queueOf 79 = .ok (.aload_n 0, 1) := by decide +kernel
theorem dX8_queueOf_80 : decode cX8_queueOf 80 = .ok (.getfield 105, 3) := by decide +kernel
theorem dX8_queueOf_83 : decode cX8_queueOf 83 = .ok (.iload_n 1, 1) := by decide +kernel
theorem dX8_queueOf_84 : decode cX8_queueOf 84 = .ok (.iaload, 1) := by decide +kernel
theorem dX8_queueOf_85 : decode cX8_queueOf 85 = .ok (.ireturn, 1) := by decide +kernel
theorem dX8_queueOf_86 : decode cX8_queueOf 86 = .ok (.aload_n 0, 1) := by decide +kernel
theorem dX8_queueOf_87 : decode cX8_queueOf 87 = .ok (.getfield 108, 3) := by decide +kernel
theorem dX8_queueOf_90 : decode cX8_queueOf 90 = .ok (.iload_n 1, 1) := by decide +kernel
theorem dX8_queueOf_91 : decode cX8_queueOf 91 = .ok (.iaload, 1) := by decide +kernel
theorem dX8_queueOf_92 : decode cX8_queueOf 92 = .ok (.ireturn, 1) := by decide +kernel
theorem dX8_queueOf_93 : decode cX8_queueOf 93 = .ok (.aload_n 0, 1) := by decide +kernel
theorem dX8_queueOf_94 : decode cX8_queueOf 94 = .ok (.iconst 1, 1) := by decide +kernel
theorem dX8_queueOf_95 : decode cX8_queueOf 95 = .ok (.iload_n 1, 1) := by decide +kernel
theorem dX8_queueOf_96 : decode cX8_queueOf 96 = .ok (.invokevirtual 265, 3) := by decide +kernel
theorem dX8_queueOf_99 : decode cX8_queueOf 99 = .ok (.ireturn, 1) := by decide +kernel
theorem dX8_queueOf_100 : decode cX8_queueOf 100 = .ok (.aload_n 0, 1) := by decide +kernel
theorem dX8_queueOf_101 : decode cX8_queueOf 101 = .ok (.iconst 2, 1) := by decide +kernel
theorem dX8_queueOf_102 : decode cX8_queueOf 102 = .ok (.iload_n 1, 1) := by decide +kernel
theorem dX8_queueOf_103 : decode cX8_queueOf 103 = .ok (.invokevirtual 265, 3) := by decide +kernel
theorem dX8_queueOf_106 : decode cX8_queueOf 106 = .ok (.ireturn, 1) := by decide +kernel
theorem dX8_queueOf_107 : decode cX8_queueOf 107 = .ok (.aload_n 0, 1) := by decide +kernel
theorem dX8_queueOf_108 : decode cX8_queueOf 108 = .ok (.iload_n 1, 1) := by decide +kernel
theorem dX8_queueOf_109 : decode cX8_queueOf 109 = .ok (.iload_n 2, 1) := by decide +kernel
theorem dX8_queueOf_110 : decode cX8_queueOf 110 = .ok (.invokevirtual 268, 3) := by decide +kernel
theorem dX8_queueOf_113 : decode cX8_queueOf 113 = .ok (.ireturn, 1) := by decide +kernel
theorem dX8_message_0 : decode cX8_message 0 = .ok (.iload_n 1, 1) := by decide +kernel
theorem dX8_message_1 : decode cX8_message 1 = .ok (.i2l, 1) := by decide +kernel
theorem dX8_message_2 : decode cX8_message 2 = .ok (.lconst 0, 1) := by decide +kernel
theorem dX8_message_3 : decode cX8_message 3 = .ok (.ldc2_w 263, 3) := by decide +kernel
theorem dX8_message_6 : decode cX8_message 6 = .ok (.invokestatic 142, 3) := by decide +kernel
theorem dX8_message_9 : decode cX8_message 9 = .ok (.ifCond .eq 30, 3) := by decide +kernel
theorem dX8_message_12 : decode cX8_message 12 = .ok (.aload_n 0, 1) := by decide +kernel
theorem dX8_message_13 : decode cX8_message 13 = .ok (.getfield 78, 3) := by decide +kernel
theorem dX8_message_16 : decode cX8_message 16 = .ok (.iload_n 1, 1) := by decide +kernel
theorem dX8_message_17 : decode cX8_message 17 = .ok (.baload, 1) := by decide +kernel
theorem dX8_message_18 : decode cX8_message 18 = .ok (.ifCond .eq 21, 3) := by decide +kernel
theorem dX8_message_21 : decode cX8_message 21 = .ok (.iload_n 2, 1) := by decide +kernel
theorem dX8_message_22 : decode cX8_message 22 = .ok (.i2l, 1) := by decide +kernel
theorem dX8_message_23 : decode cX8_message 23 = .ok (.lconst 0, 1) := by decide +kernel
theorem dX8_message_24 : decode cX8_message 24 = .ok (.aload_n 0, 1) := by decide +kernel
theorem dX8_message_25 : decode cX8_message 25 = .ok (.getfield 108, 3) := by decide +kernel
theorem dX8_message_28 : decode cX8_message 28 = .ok (.iload_n 1, 1) := by decide +kernel
theorem dX8_message_29 : decode cX8_message 29 = .ok (.iaload, 1) := by decide +kernel
theorem dX8_message_30 : decode cX8_message 30 = .ok (.iconst 1, 1) := by decide +kernel
theorem dX8_message_31 : decode cX8_message 31 = .ok (.isub, 1) := by decide +kernel
theorem dX8_message_32 : decode cX8_message 32 = .ok (.i2l, 1) := by decide +kernel
theorem dX8_message_33 : decode cX8_message 33 = .ok (.invokestatic 142, 3) := by decide +kernel
theorem dX8_message_36 : decode cX8_message 36 = .ok (.ifCond .ne 7, 3) := by decide +kernel
theorem dX8_message_39 : decode cX8_message 39 = .ok (.ldc2_w 271, 3) := by decide +kernel
theorem dX8_message_42 : decode cX8_message 42 = .ok (.lreturn, 1) := by decide +kernel
theorem dX8_message_43 : decode cX8_message 43 = .ok (.bipush 40, 2) := by decide +kernel
theorem dX8_message_45 : decode cX8_message 45 = .ok (.iload_n 1, 1) := by decide +kernel
theorem dX8_message_46 : decode cX8_message 46 = .ok (.imul, 1) := by decide +kernel
theorem dX8_message_47 : decode cX8_message 47 = .ok (.iload_n 2, 1) := by decide +kernel
theorem dX8_message_48 : decode cX8_message 48 = .ok (.iadd, 1) := by decide +kernel
theorem dX8_message_49 : decode cX8_message 49 = .ok (.istore 4, 2) := by decide +kernel
theorem dX8_message_51 : decode cX8_message 51 = .ok (.iload_n 3, 1) := by decide +kernel
theorem dX8_message_52 : decode cX8_message 52 = .ok (.ifCond .ne 11, 3) := by decide +kernel
theorem dX8_message_55 : decode cX8_message 55 = .ok (.aload_n 0, 1) := by decide +kernel
theorem dX8_message_56 : decode cX8_message 56 = .ok (.getfield 111, 3) := by decide +kernel
theorem dX8_message_59 : decode cX8_message 59 = .ok (.iload 4, 2) := by decide +kernel
theorem dX8_message_61 : decode cX8_message 61 = .ok (.laload, 1) := by decide +kernel
theorem dX8_message_62 : decode cX8_message 62 = .ok (.lreturn, 1) := by decide +kernel
theorem dX8_message_63 : decode cX8_message 63 = .ok (.iload_n 3, 1) := by decide +kernel
theorem dX8_message_64 : decode cX8_message 64 = .ok (.iconst 1, 1) := by decide +kernel
theorem dX8_message_65 : decode cX8_message 65 = .ok (.if_icmp .ne 12, 3) := by decide +kernel
theorem dX8_message_68 : decode cX8_message 68 = .ok (.aload_n 0, 1) := by decide +kernel
theorem dX8_message_69 : decode cX8_message 69 = .ok (.getfield 114, 3) := by decide +kernel
theorem dX8_message_72 : decode cX8_message 72 = .ok (.iload 4, 2) := by decide +kernel
theorem dX8_message_74 : decode cX8_message 74 = .ok (.iaload, 1) := by decide +kernel
theorem dX8_message_75 : decode cX8_message 75 = .ok (.i2l, 1) := by decide +kernel
theorem dX8_message_76 : decode cX8_message 76 = .ok (.lreturn, 1) := by decide +kernel
theorem dX8_message_77 : decode cX8_message 77 = .ok (.iload_n 3, 1) := by decide +kernel
theorem dX8_message_78 : decode cX8_message 78 = .ok (.i2l, 1) := by decide +kernel
theorem dX8_message_79 : decode cX8_message 79 = .ok (.ldc2_w 273, 3) := by decide +kernel
theorem dX8_message_82 : decode cX8_message 82 = .ok (.aload_n 0, 1) := by decide +kernel
theorem dX8_message_83 : decode cX8_message 83 = .ok (.getfield 114, 3) := by decide +kernel
theorem dX8_message_86 : decode cX8_message 86 = .ok (.iload 4, 2) := by decide +kernel
theorem dX8_message_88 : decode cX8_message 88 = .ok (.iaload, 1) := by decide +kernel
theorem dX8_message_89 : decode cX8_message 89 = .ok (.iconst 1, 1) := by decide +kernel
theorem dX8_message_90 : decode cX8_message 90 = .ok (.iadd, 1) := by decide +kernel
theorem dX8_message_91 : decode cX8_message 91 = .ok (.i2l, 1) := by decide +kernel
theorem dX8_message_92 : decode cX8_message 92 = .ok (.invokestatic 142, 3) := by decide +kernel
theorem dX8_message_95 : decode cX8_message 95 = .ok (.ifCond .eq 21, 3) := by decide +kernel
theorem dX8_message_98 : decode cX8_message 98 = .ok (.aload_n 0, 1) := by decide +kernel
theorem dX8_message_99 : decode cX8_message 99 = .ok (.getfield 117, 3) := by decide +kernel
theorem dX8_message_102 : decode cX8_message 102 = .ok (.bipush 64, 2) := by decide +kernel
theorem dX8_message_104 : decode cX8_message 104 = .ok (.iload 4, 2) := by decide +kernel
theorem dX8_message_106 : decode cX8_message 106 = .ok (.imul, 1) := by decide +kernel
theorem dX8_message_107 : decode cX8_message 107 = .ok (.iload_n 3, 1) := by decide +kernel
theorem dX8_message_108 : decode cX8_message 108 = .ok (.iadd, 1) := by decide +kernel
theorem dX8_message_109 : decode cX8_message 109 = .ok (.iconst 2, 1) := by decide +kernel
theorem dX8_message_110 : decode cX8_message 110 = .ok (.isub, 1) := by decide +kernel
theorem dX8_message_111 : decode cX8_message 111 = .ok (.iaload, 1) := by decide +kernel
theorem dX8_message_112 : decode cX8_message 112 = .ok (.i2l, 1) := by decide +kernel
theorem dX8_message_113 : decode cX8_message 113 = .ok (.goto 6, 3) := by decide +kernel
theorem dX8_message_116 : decode cX8_message 116 = .ok (.ldc2_w 271, 3) := by decide +kernel
theorem dX8_message_119 : decode cX8_message 119 = .ok (.lreturn, 1) := by decide +kernel
theorem dX8_setOf_0 : decode cX8_setOf 0 = .ok (.iload_n 2, 1) := by decide +kernel
theorem dX8_setOf_1 : decode cX8_setOf 1 = .ok (.i2l, 1) := by decide +kernel
theorem dX8_setOf_2 : decode cX8_setOf 2 = .ok (.lconst 0, 1) := by decide +kernel
theorem dX8_setOf_3 : decode cX8_setOf 3 = .ok (.ldc2_w 204, 3) := by decide +kernel
theorem dX8_setOf_6 : decode cX8_setOf 6 = .ok (.invokestatic 142, 3) := by decide +kernel
theorem dX8_setOf_9 : decode cX8_setOf 9 = .ok (.ifCond .ne 6, 3) := by decide +kernel
theorem dX8_setOf_12 : decode cX8_setOf 12 = .ok (.bipush (-4), 2) := by decide +kernel
theorem dX8_setOf_14 : decode cX8_setOf 14 = .ok (.ireturn, 1) := by decide +kernel
theorem dX8_setOf_15 : decode cX8_setOf 15 = .ok (.iload_n 1, 1) := by decide +kernel
theorem dX8_setOf_16 : decode cX8_setOf 16 = .ok (.i2l, 1) := by decide +kernel
theorem dX8_setOf_17 : decode cX8_setOf 17 = .ok (.lconst 0, 1) := by decide +kernel
theorem dX8_setOf_18 : decode cX8_setOf 18 = .ok (.ldc2_w 263, 3) := by decide +kernel
theorem dX8_setOf_21 : decode cX8_setOf 21 = .ok (.invokestatic 142, 3) := by decide +kernel
theorem dX8_setOf_24 : decode cX8_setOf 24 = .ok (.ifCond .eq 15, 3) := by decide +kernel
theorem dX8_setOf_27 : decode cX8_setOf 27 = .ok (.aload_n 0, 1) := by decide +kernel
theorem dX8_setOf_28 : decode cX8_setOf 28 = .ok (.getfield 78, 3) := by decide +kernel
theorem dX8_setOf_31 : decode cX8_setOf 31 = .ok (.bipush 12, 2) := by decide +kernel
theorem dX8_setOf_33 : decode cX8_setOf 33 = .ok (.iload_n 1, 1) := by decide +kernel
theorem dX8_setOf_34 : decode cX8_setOf 34 = .ok (.iadd, 1) := by decide +kernel
theorem dX8_setOf_35 : decode cX8_setOf 35 = .ok (.baload, 1) := by decide +kernel
theorem dX8_setOf_36 : decode cX8_setOf 36 = .ok (.ifCond .ne 5, 3) := by decide +kernel
theorem dX8_setOf_39 : decode cX8_setOf 39 = .ok (.iconst (-1), 1) := by decide +kernel
theorem dX8_setOf_40 : decode cX8_setOf 40 = .ok (.ireturn, 1) := by decide +kernel
theorem dX8_setOf_41 : decode cX8_setOf 41 = .ok (.iload_n 2, 1) := by decide +kernel
theorem dX8_setOf_42 : decode cX8_setOf 42 = .ok (.bipush 7, 2) := by decide +kernel
theorem dX8_setOf_44 : decode cX8_setOf 44 = .ok (.if_icmp .ne 12, 3) := by decide +kernel
theorem dX8_setOf_47 : decode cX8_setOf 47 = .ok (.aload_n 0, 1) := by decide +kernel
theorem dX8_setOf_48 : decode cX8_setOf 48 = .ok (.getfield 120, 3) := by decide +kernel
theorem dX8_setOf_51 : decode cX8_setOf 51 = .ok (.iload_n 1, 1) := by decide +kernel
theorem dX8_setOf_52 : decode cX8_setOf 52 = .ok (.iaload, 1) := by decide +kernel
theorem dX8_setOf_53 : decode cX8_setOf 53 = .ok (.goto 27, 3) := by decide +kernel
theorem dX8_setOf_56 : decode cX8_setOf 56 = .ok (.iload_n 2, 1) := by decide +kernel
theorem dX8_setOf_57 : decode cX8_setOf 57 = .ok (.bipush 8, 2) := by decide +kernel
theorem dX8_setOf_59 : decode cX8_setOf 59 = .ok (.if_icmp .ne 12, 3) := by decide +kernel
theorem dX8_setOf_62 : decode cX8_setOf 62 = .ok (.aload_n 0, 1) := by decide +kernel
theorem dX8_setOf_63 : decode cX8_setOf 63 = .ok (.iconst 3, 1) := by decide +kernel
theorem dX8_setOf_64 : decode cX8_setOf 64 = .ok (.iload_n 1, 1) := by decide +kernel
theorem dX8_setOf_65 : decode cX8_setOf 65 = .ok (.invokevirtual 265, 3) := by decide +kernel
theorem dX8_setOf_68 : decode cX8_setOf 68 = .ok (.goto 12, 3) := by decide +kernel
theorem dX8_setOf_71 : decode cX8_setOf 71 = .ok (.aload_n 0, 1) := by decide +kernel
theorem dX8_setOf_72 : decode cX8_setOf 72 = .ok (.bipush 12, 2) := by decide +kernel
theorem dX8_setOf_74 : decode cX8_setOf 74 = .ok (.iload_n 1, 1) := by decide +kernel
theorem dX8_setOf_75 : decode cX8_setOf 75 = .ok (.iadd, 1) := by decide +kernel
theorem dX8_setOf_76 : decode cX8_setOf 76 = .ok (.iload_n 2, 1) := by decide +kernel
theorem dX8_setOf_77 : decode cX8_setOf 77 = .ok (.invokevirtual 268, 3) := by decide +kernel
theorem dX8_setOf_80 : decode cX8_setOf 80 = .ok (.ireturn, 1) := by decide +kernel
theorem dX8_counter_0 : decode cX8_counter 0 = .ok (.iload_n 3, 1) := by decide +kernel
theorem dX8_counter_1 : decode cX8_counter 1 = .ok (.i2l, 1) := by decide +kernel
theorem dX8_counter_2 : decode cX8_counter 2 = .ok (.lconst 0, 1) := by decide +kernel
theorem dX8_counter_3 : decode cX8_counter 3 = .ok (.ldc2_w 258, 3) := by decide +kernel
theorem dX8_counter_6 : decode cX8_counter 6 = .ok (.invokestatic 142, 3) := by decide +kernel
theorem dX8_counter_9 : decode cX8_counter 9 = .ok (.ifCond .ne 6, 3) := by decide +kernel
theorem dX8_counter_12 : decode cX8_counter 12 = .ok (.bipush (-4), 2) := by decide +kernel
theorem dX8_counter_14 : decode cX8_counter 14 = .ok (.ireturn, 1) := by decide +kernel
theorem dX8_counter_15 : decode cX8_counter 15 = .ok (.iload_n 1, 1) := by decide +kernel
theorem dX8_counter_16 : decode cX8_counter 16 = .ok (.i2l, 1) := by decide +kernel
theorem dX8_counter_17 : decode cX8_counter 17 = .ok (.lconst 0, 1) := by decide +kernel
theorem dX8_counter_18 : decode cX8_counter 18 = .ok (.ldc2_w 263, 3) := by decide +kernel
theorem dX8_counter_21 : decode cX8_counter 21 = .ok (.invokestatic 142, 3) := by decide +kernel
theorem dX8_counter_24 : decode cX8_counter 24 = .ok (.ifCond .eq 33, 3) := by decide +kernel
theorem dX8_counter_27 : decode cX8_counter 27 = .ok (.aload_n 0, 1) := by decide +kernel
theorem dX8_counter_28 : decode cX8_counter 28 = .ok (.getfield 78, 3) := by decide +kernel
theorem dX8_counter_31 : decode cX8_counter 31 = .ok (.bipush 12, 2) := by decide +kernel
theorem dX8_counter_33 : decode cX8_counter 33 = .ok (.iload_n 1, 1) := by decide +kernel
theorem dX8_counter_34 : decode cX8_counter 34 = .ok (.iadd, 1) := by decide +kernel
theorem dX8_counter_35 : decode cX8_counter 35 = .ok (.baload, 1) := by decide +kernel
theorem dX8_counter_36 : decode cX8_counter 36 = .ok (.ifCond .eq 21, 3) := by decide +kernel
theorem dX8_counter_39 : decode cX8_counter 39 = .ok (.iload_n 2, 1) := by decide +kernel
theorem dX8_counter_40 : decode cX8_counter 40 = .ok (.i2l, 1) := by decide +kernel
theorem dX8_counter_41 : decode cX8_counter 41 = .ok (.lconst 0, 1) := by decide +kernel
theorem dX8_counter_42 : decode cX8_counter 42 = .ok (.aload_n 0, 1) := by decide +kernel
theorem dX8_counter_43 : decode cX8_counter 43 = .ok (.getfield 120, 3) := by decide +kernel
theorem dX8_counter_46 : decode cX8_counter 46 = .ok (.iload_n 1, 1) := by decide +kernel
theorem dX8_counter_47 : decode cX8_counter 47 = .ok (.iaload, 1) := by decide +kernel
theorem dX8_counter_48 : decode cX8_counter 48 = .ok (.iconst 1, 1) := by decide +kernel
theorem dX8_counter_49 : decode cX8_counter 49 = .ok (.isub, 1) := by decide +kernel
theorem dX8_counter_50 : decode cX8_counter 50 = .ok (.i2l, 1) := by decide +kernel
theorem dX8_counter_51 : decode cX8_counter 51 = .ok (.invokestatic 142, 3) := by decide +kernel
theorem dX8_counter_54 : decode cX8_counter 54 = .ok (.ifCond .ne 5, 3) := by decide +kernel
theorem dX8_counter_57 : decode cX8_counter 57 = .ok (.iconst (-1), 1) := by decide +kernel
theorem dX8_counter_58 : decode cX8_counter 58 = .ok (.ireturn, 1) := by decide +kernel
theorem dX8_counter_59 : decode cX8_counter 59 = .ok (.iload_n 3, 1) := by decide +kernel
theorem dX8_counter_60 : decode cX8_counter 60 = .ok (.iconst 2, 1) := by decide +kernel
theorem dX8_counter_61 : decode cX8_counter 61 = .ok (.if_icmp .ge 33, 3) := by decide +kernel
theorem dX8_counter_64 : decode cX8_counter 64 = .ok (.iload_n 3, 1) := by decide +kernel
theorem dX8_counter_65 : decode cX8_counter 65 = .ok (.ifCond .ne 17, 3) := by decide +kernel
theorem dX8_counter_68 : decode cX8_counter 68 = .ok (.aload_n 0, 1) := by decide +kernel
theorem dX8_counter_69 : decode cX8_counter 69 = .ok (.getfield 123, 3) := by decide +kernel
theorem dX8_counter_72 : decode cX8_counter 72 = .ok (.bipush 8, 2) := by decide +kernel
theorem dX8_counter_74 : decode cX8_counter 74 = .ok (.iload_n 1, 1) := by decide +kernel
theorem dX8_counter_75 : decode cX8_counter 75 = .ok (.imul, 1) := by decide +kernel
theorem dX8_counter_76 : decode cX8_counter 76 = .ok (.iload_n 2, 1) := by decide +kernel
theorem dX8_counter_77 : decode cX8_counter 77 = .ok (.iadd, 1) := by decide +kernel
theorem dX8_counter_78 : decode cX8_counter 78 = .ok (.iaload, 1) := by decide +kernel
theorem dX8_counter_79 : decode cX8_counter 79 = .ok (.goto 14, 3) := by decide +kernel
theorem dX8_counter_82 : decode cX8_counter 82 = .ok (.aload_n 0, 1) := by decide +kernel
theorem dX8_counter_83 : decode cX8_counter 83 = .ok (.getfield 126, 3) := by decide +kernel
theorem dX8_counter_86 : decode cX8_counter 86 = .ok (.bipush 8, 2) := by decide +kernel
theorem dX8_counter_88 : decode cX8_counter 88 = .ok (.iload_n 1, 1) := by decide +kernel
theorem dX8_counter_89 : decode cX8_counter 89 = .ok (.imul, 1) := by decide +kernel
theorem dX8_counter_90 : decode cX8_counter 90 = .ok (.iload_n 2, 1) := by decide +kernel
theorem dX8_counter_91 : decode cX8_counter 91 = .ok (.iadd, 1) := by decide +kernel
theorem dX8_counter_92 : decode cX8_counter 92 = .ok (.iaload, 1) := by decide +kernel
theorem dX8_counter_93 : decode cX8_counter 93 = .ok (.ireturn, 1) := by decide +kernel
theorem dX8_counter_94 : decode cX8_counter 94 = .ok (.iconst 0, 1) := by decide +kernel
theorem dX8_counter_95 : decode cX8_counter 95 = .ok (.istore 4, 2) := by decide +kernel
theorem dX8_counter_97 : decode cX8_counter 97 = .ok (.iconst 0, 1) := by decide +kernel
theorem dX8_counter_98 : decode cX8_counter 98 = .ok (.istore 5, 2) := by decide +kernel
theorem dX8_counter_100 : decode cX8_counter 100 = .ok (.iload 5, 2) := by decide +kernel
theorem dX8_counter_102 : decode cX8_counter 102 = .ok (.aload_n 0, 1) := by decide +kernel
theorem dX8_counter_103 : decode cX8_counter 103 = .ok (.getfield 138, 3) := by decide +kernel
theorem dX8_counter_106 : decode cX8_counter 106 = .ok (.if_icmp .ge 95, 3) := by decide +kernel
theorem dX8_counter_109 : decode cX8_counter 109 = .ok (.aload_n 0, 1) := by decide +kernel
theorem dX8_counter_110 : decode cX8_counter 110 = .ok (.getfield 30, 3) := by decide +kernel
theorem dX8_counter_113 : decode cX8_counter 113 = .ok (.iload 5, 2) := by decide +kernel
theorem dX8_counter_115 : decode cX8_counter 115 = .ok (.iaload, 1) := by decide +kernel
theorem dX8_counter_116 : decode cX8_counter 116 = .ok (.iconst 3, 1) := by decide +kernel
theorem dX8_counter_117 : decode cX8_counter 117 = .ok (.if_icmp .ne 78, 3) := by decide +kernel
theorem dX8_counter_120 : decode cX8_counter 120 = .ok (.aload_n 0, 1) := by decide +kernel
theorem dX8_counter_121 : decode cX8_counter 121 = .ok (.getfield 36, 3) := by decide +kernel
theorem dX8_counter_124 : decode cX8_counter 124 = .ok (.iload 5, 2) := by decide +kernel
theorem dX8_counter_126 : decode cX8_counter 126 = .ok (.iaload, 1) := by decide +kernel
theorem dX8_counter_127 : decode cX8_counter 127 = .ok (.iload_n 1, 1) := by decide +kernel
theorem dX8_counter_128 : decode cX8_counter 128 = .ok (.if_icmp .ne 67, 3) := by decide +kernel
theorem dX8_counter_131 : decode cX8_counter 131 = .ok (.bipush 8, 2) := by decide +kernel
theorem dX8_counter_133 : decode cX8_counter 133 = .ok (.iload 5, 2) := by decide +kernel
theorem dX8_counter_135 : decode cX8_counter 135 = .ok (.imul, 1) := by decide +kernel
theorem dX8_counter_136 : decode cX8_counter 136 = .ok (.aload_n 0, 1) := by decide +kernel
theorem dX8_counter_137 : decode cX8_counter 137 = .ok (.getfield 51, 3) := by decide +kernel
theorem dX8_counter_140 : decode cX8_counter 140 = .ok (.iload 5, 2) := by decide +kernel
theorem dX8_counter_142 : decode cX8_counter 142 = .ok (.iaload, 1) := by decide +kernel
theorem dX8_counter_143 : decode cX8_counter 143 = .ok (.iadd, 1) := by decide +kernel
theorem dX8_counter_144 : decode cX8_counter 144 = .ok (.istore 6, 2) := by decide +kernel
theorem dX8_counter_146 : decode cX8_counter 146 = .ok (.iload 4, 2) := by decide +kernel
theorem dX8_counter_148 : decode cX8_counter 148 = .ok (.aload_n 0, 1) := by decide +kernel
theorem dX8_counter_149 : decode cX8_counter 149 = .ok (.getfield 69, 3) := by decide +kernel
theorem dX8_counter_152 : decode cX8_counter 152 = .ok (.iload 6, 2) := by decide +kernel
theorem dX8_counter_154 : decode cX8_counter 154 = .ok (.iaload, 1) := by decide +kernel
theorem dX8_counter_155 : decode cX8_counter 155 = .ok (.iload_n 2, 1) := by decide +kernel
theorem dX8_counter_156 : decode cX8_counter 156 = .ok (.if_icmp .ne 35, 3) := by decide +kernel
theorem dX8_counter_159 : decode cX8_counter 159 = .ok (.aload_n 0, 1) := by decide +kernel
theorem dX8_counter_160 : decode cX8_counter 160 = .ok (.getfield 72, 3) := by decide +kernel
theorem dX8_counter_163 : decode cX8_counter 163 = .ok (.iload 6, 2) := by decide +kernel
theorem dX8_counter_165 : decode cX8_counter 165 = .ok (.iaload, 1) := by decide +kernel
theorem dX8_counter_166 : decode cX8_counter 166 = .ok (.ifCond .ne 7, 3) := by decide +kernel
theorem dX8_counter_169 : decode cX8_counter 169 = .ok (.iconst 1, 1) := by decide +kernel
theorem dX8_counter_170 : decode cX8_counter 170 = .ok (.goto 4, 3) := by decide +kernel
theorem dX8_counter_173 : decode cX8_counter 173 = .ok (.iconst 0, 1) := by decide +kernel
theorem dX8_counter_174 : decode cX8_counter 174 = .ok (.iload_n 3, 1) := by decide +kernel
theorem dX8_counter_175 : decode cX8_counter 175 = .ok (.iconst 3, 1) := by decide +kernel
theorem dX8_counter_176 : decode cX8_counter 176 = .ok (.if_icmp .ne 7, 3) := by decide +kernel
theorem dX8_counter_179 : decode cX8_counter 179 = .ok (.iconst 1, 1) := by decide +kernel
theorem dX8_counter_180 : decode cX8_counter 180 = .ok (.goto 4, 3) := by decide +kernel
theorem dX8_counter_183 : decode cX8_counter 183 = .ok (.iconst 0, 1) := by decide +kernel
theorem dX8_counter_184 : decode cX8_counter 184 = .ok (.if_icmp .ne 7, 3) := by decide +kernel
theorem dX8_counter_187 : decode cX8_counter 187 = .ok (.iconst 1, 1) := by decide +kernel
theorem dX8_counter_188 : decode cX8_counter 188 = .ok (.goto 4, 3) := by decide +kernel
theorem dX8_counter_191 : decode cX8_counter 191 = .ok (.iconst 0, 1) := by decide +kernel
theorem dX8_counter_192 : decode cX8_counter 192 = .ok (.iadd, 1) := by decide +kernel
theorem dX8_counter_193 : decode cX8_counter 193 = .ok (.istore 4, 2) := by decide +kernel
theorem dX8_counter_195 : decode cX8_counter 195 = .ok (.iinc 5 1, 3) := by decide +kernel
theorem dX8_counter_198 : decode cX8_counter 198 = .ok (.goto (-98), 3) := by decide +kernel
theorem dX8_counter_201 : decode cX8_counter 201 = .ok (.iload 4, 2) := by decide +kernel
theorem dX8_counter_203 : decode cX8_counter 203 = .ok (.ireturn, 1) := by decide +kernel
theorem dX8_undo_0 : decode cX8_undo 0 = .ok (.aload_n 0, 1) := by decide +kernel
theorem dX8_undo_1 : decode cX8_undo 1 = .ok (.iload_n 1, 1) := by decide +kernel
theorem dX8_undo_2 : decode cX8_undo 2 = .ok (.invokevirtual 152, 3) := by decide +kernel
theorem dX8_undo_5 : decode cX8_undo 5 = .ok (.ifCond .eq 45, 3) := by decide +kernel
theorem dX8_undo_8 : decode cX8_undo 8 = .ok (.iload_n 2, 1) := by decide +kernel
theorem dX8_undo_9 : decode cX8_undo 9 = .ok (.i2l, 1) := by decide +kernel
theorem dX8_undo_10 : decode cX8_undo 10 = .ok (.lconst 0, 1) := by decide +kernel
theorem dX8_undo_11 : decode cX8_undo 11 = .ok (.ldc2_w 263, 3) := by decide +kernel
theorem dX8_undo_14 : decode cX8_undo 14 = .ok (.invokestatic 142, 3) := by decide +kernel
theorem dX8_undo_17 : decode cX8_undo 17 = .ok (.ifCond .eq 33, 3) := by decide +kernel
theorem dX8_undo_20 : decode cX8_undo 20 = .ok (.aload_n 0, 1) := by decide +kernel
theorem dX8_undo_21 : decode cX8_undo 21 = .ok (.getfield 78, 3) := by decide +kernel
theorem dX8_undo_24 : decode cX8_undo 24 = .ok (.bipush 12, 2) := by decide +kernel
theorem dX8_undo_26 : decode cX8_undo 26 = .ok (.iload_n 2, 1) := by decide +kernel
theorem dX8_undo_27 : decode cX8_undo 27 = .ok (.iadd, 1) := by decide +kernel
theorem dX8_undo_28 : decode cX8_undo 28 = .ok (.baload, 1) := by decide +kernel
theorem dX8_undo_29 : decode cX8_undo 29 = .ok (.ifCond .eq 21, 3) := by decide +kernel
theorem dX8_undo_32 : decode cX8_undo 32 = .ok (.iload_n 3, 1) := by decide +kernel
theorem dX8_undo_33 : decode cX8_undo 33 = .ok (.i2l, 1) := by decide +kernel
theorem dX8_undo_34 : decode cX8_undo 34 = .ok (.lconst 0, 1) := by decide +kernel
theorem dX8_undo_35 : decode cX8_undo 35 = .ok (.aload_n 0, 1) := by decide +kernel
theorem dX8_undo_36 : decode cX8_undo 36 = .ok (.getfield 120, 3) := by decide +kernel
theorem dX8_undo_39 : decode cX8_undo 39 = .ok (.iload_n 2, 1) := by decide +kernel
theorem dX8_undo_40 : decode cX8_undo 40 = .ok (.iaload, 1) := by decide +kernel
theorem dX8_undo_41 : decode cX8_undo 41 = .ok (.iconst 1, 1) := by decide +kernel
theorem dX8_undo_42 : decode cX8_undo 42 = .ok (.isub, 1) := by decide +kernel
theorem dX8_undo_43 : decode cX8_undo 43 = .ok (.i2l, 1) := by decide +kernel
theorem dX8_undo_44 : decode cX8_undo 44 = .ok (.invokestatic 142, 3) := by decide +kernel
theorem dX8_undo_47 : decode cX8_undo 47 = .ok (.ifCond .ne 7, 3) := by decide +kernel
theorem dX8_undo_50 : decode cX8_undo 50 = .ok (.iconst 0, 1) := by decide +kernel
theorem dX8_undo_51 : decode cX8_undo 51 = .ok (.goto 19, 3) := by decide +kernel
theorem dX8_undo_54 : decode cX8_undo 54 = .ok (.aload_n 0, 1) := by decide +kernel
theorem dX8_undo_55 : decode cX8_undo 55 = .ok (.getfield 129, 3) := by decide +kernel
theorem dX8_undo_58 : decode cX8_undo 58 = .ok (.bipush 96, 2) := by decide +kernel
theorem dX8_undo_60 : decode cX8_undo 60 = .ok (.iload_n 1, 1) := by decide +kernel
theorem dX8_undo_61 : decode cX8_undo 61 = .ok (.imul, 1) := by decide +kernel
theorem dX8_undo_62 : decode cX8_undo 62 = .ok (.bipush 8, 2) := by decide +kernel
theorem dX8_undo_64 : decode cX8_undo 64 = .ok (.iload_n 2, 1) := by decide +kernel
theorem dX8_undo_65 : decode cX8_undo 65 = .ok (.imul, 1) := by decide +kernel
theorem dX8_undo_66 : decode cX8_undo 66 = .ok (.iadd, 1) := by decide +kernel
theorem dX8_undo_67 : decode cX8_undo 67 = .ok (.iload_n 3, 1) := by decide +kernel
theorem dX8_undo_68 : decode cX8_undo 68 = .ok (.iadd, 1) := by decide +kernel
theorem dX8_undo_69 : decode cX8_undo 69 = .ok (.iaload, 1) := by decide +kernel
theorem dX8_undo_70 : decode cX8_undo 70 = .ok (.ireturn, 1) := by decide +kernel
theorem dX8_count_0 : decode cX8_count 0 = .ok (.iconst 0, 1) := by decide +kernel
theorem dX8_count_1 : decode cX8_count 1 = .ok (.istore_n 2, 1) := by decide +kernel
theorem dX8_count_2 : decode cX8_count 2 = .ok (.iload_n 1, 1) := by decide +kernel
theorem dX8_count_3 : decode cX8_count 3 = .ok (.tableswitch 226 0 6 #[41, 46, 81, 116, 149, 183, 188], 41) := by decide +kernel
theorem dX8_count_44 : decode cX8_count 44 = .ok (.aload_n 0, 1) := by decide +kernel
theorem dX8_count_45 : decode cX8_count 45 = .ok (.getfield 138, 3) := by decide +kernel
theorem dX8_count_48 : decode cX8_count 48 = .ok (.ireturn, 1) := by decide +kernel
theorem dX8_count_49 : decode cX8_count 49 = .ok (.iconst 0, 1) := by decide +kernel
theorem dX8_count_50 : decode cX8_count 50 = .ok (.istore_n 3, 1) := by decide +kernel
theorem dX8_count_51 : decode cX8_count 51 = .ok (.iload_n 3, 1) := by decide +kernel
theorem dX8_count_52 : decode cX8_count 52 = .ok (.aload_n 0, 1) := by decide +kernel
theorem dX8_count_53 : decode cX8_count 53 = .ok (.getfield 138, 3) := by decide +kernel
theorem dX8_count_56 : decode cX8_count 56 = .ok (.if_icmp .ge 26, 3) := by decide +kernel
theorem dX8_count_59 : decode cX8_count 59 = .ok (.iload_n 2, 1) := by decide +kernel
theorem dX8_count_60 : decode cX8_count 60 = .ok (.aload_n 0, 1) := by decide +kernel
theorem dX8_count_61 : decode cX8_count 61 = .ok (.getfield 16, 3) := by decide +kernel
theorem dX8_count_64 : decode cX8_count 64 = .ok (.iload_n 3, 1) := by decide +kernel
theorem dX8_count_65 : decode cX8_count 65 = .ok (.baload, 1) := by decide +kernel
theorem dX8_count_66 : decode cX8_count 66 = .ok (.ifCond .eq 7, 3) := by decide +kernel
theorem dX8_count_69 : decode cX8_count 69 = .ok (.iconst 1, 1) := by decide +kernel
theorem dX8_count_70 : decode cX8_count 70 = .ok (.goto 4, 3) := by decide +kernel
theorem dX8_count_73 : decode cX8_count 73 = .ok (.iconst 0, 1) := by decide +kernel
theorem dX8_count_74 : decode cX8_count 74 = .ok (.iadd, 1) := by decide +kernel
theorem dX8_count_75 : decode cX8_count 75 = .ok (.istore_n 2, 1) := by decide +kernel
theorem dX8_count_76 : decode cX8_count 76 = .ok (.iinc 3 1, 3) := by decide +kernel
theorem dX8_count_79 : decode cX8_count 79 = .ok (.goto (-28), 3) := by decide +kernel
theorem dX8_count_82 : decode cX8_count 82 = .ok (.iload_n 2, 1) := by decide +kernel
theorem dX8_count_83 : decode cX8_count 83 = .ok (.ireturn, 1) := by decide +kernel
theorem dX8_count_84 : decode cX8_count 84 = .ok (.iconst 0, 1) := by decide +kernel
theorem dX8_count_85 : decode cX8_count 85 = .ok (.istore_n 3, 1) := by decide +kernel
theorem dX8_count_86 : decode cX8_count 86 = .ok (.iload_n 3, 1) := by decide +kernel
theorem dX8_count_87 : decode cX8_count 87 = .ok (.aload_n 0, 1) := by decide +kernel
theorem dX8_count_88 : decode cX8_count 88 = .ok (.getfield 138, 3) := by decide +kernel
theorem dX8_count_91 : decode cX8_count 91 = .ok (.if_icmp .ge 26, 3) := by decide +kernel
theorem dX8_count_94 : decode cX8_count 94 = .ok (.iload_n 2, 1) := by decide +kernel
theorem dX8_count_95 : decode cX8_count 95 = .ok (.aload_n 0, 1) := by decide +kernel
theorem dX8_count_96 : decode cX8_count 96 = .ok (.getfield 30, 3) := by decide +kernel
theorem dX8_count_99 : decode cX8_count 99 = .ok (.iload_n 3, 1) := by decide +kernel
theorem dX8_count_100 : decode cX8_count 100 = .ok (.iaload, 1) := by decide +kernel
theorem dX8_count_101 : decode cX8_count 101 = .ok (.ifCond .eq 7, 3) := by decide +kernel
theorem dX8_count_104 : decode cX8_count 104 = .ok (.iconst 1, 1) := by decide +kernel
theorem dX8_count_105 : decode cX8_count 105 = .ok (.goto 4, 3) := by decide +kernel
theorem dX8_count_108 : decode cX8_count 108 = .ok (.iconst 0, 1) := by decide +kernel
theorem dX8_count_109 : decode cX8_count 109 = .ok (.iadd, 1) := by decide +kernel
theorem dX8_count_110 : decode cX8_count 110 = .ok (.istore_n 2, 1) := by decide +kernel
theorem dX8_count_111 : decode cX8_count 111 = .ok (.iinc 3 1, 3) := by decide +kernel
theorem dX8_count_114 : decode cX8_count 114 = .ok (.goto (-28), 3) := by decide +kernel
theorem dX8_count_117 : decode cX8_count 117 = .ok (.iload_n 2, 1) := by decide +kernel
theorem dX8_count_118 : decode cX8_count 118 = .ok (.ireturn, 1) := by decide +kernel
theorem dX8_count_119 : decode cX8_count 119 = .ok (.iconst 0, 1) := by decide +kernel
theorem dX8_count_120 : decode cX8_count 120 = .ok (.istore_n 3, 1) := by decide +kernel
theorem dX8_count_121 : decode cX8_count 121 = .ok (.iload_n 3, 1) := by decide +kernel
theorem dX8_count_122 : decode cX8_count 122 = .ok (.bipush 12, 2) := by decide +kernel
theorem dX8_count_124 : decode cX8_count 124 = .ok (.if_icmp .ge 26, 3) := by decide +kernel
theorem dX8_count_127 : decode cX8_count 127 = .ok (.iload_n 2, 1) := by decide +kernel
theorem dX8_count_128 : decode cX8_count 128 = .ok (.aload_n 0, 1) := by decide +kernel
theorem dX8_count_129 : decode cX8_count 129 = .ok (.getfield 78, 3) := by decide +kernel
theorem dX8_count_132 : decode cX8_count 132 = .ok (.iload_n 3, 1) := by decide +kernel
theorem dX8_count_133 : decode cX8_count 133 = .ok (.baload, 1) := by decide +kernel
theorem dX8_count_134 : decode cX8_count 134 = .ok (.ifCond .eq 7, 3) := by decide +kernel
theorem dX8_count_137 : decode cX8_count 137 = .ok (.iconst 1, 1) := by decide +kernel
theorem dX8_count_138 : decode cX8_count 138 = .ok (.goto 4, 3) := by decide +kernel
theorem dX8_count_141 : decode cX8_count 141 = .ok (.iconst 0, 1) := by decide +kernel
theorem dX8_count_142 : decode cX8_count 142 = .ok (.iadd, 1) := by decide +kernel
theorem dX8_count_143 : decode cX8_count 143 = .ok (.istore_n 2, 1) := by decide +kernel
theorem dX8_count_144 : decode cX8_count 144 = .ok (.iinc 3 1, 3) := by decide +kernel
theorem dX8_count_147 : decode cX8_count 147 = .ok (.goto (-26), 3) := by decide +kernel
theorem dX8_count_150 : decode cX8_count 150 = .ok (.iload_n 2, 1) := by decide +kernel
theorem dX8_count_151 : decode cX8_count 151 = .ok (.ireturn, 1) := by decide +kernel
theorem dX8_count_152 : decode cX8_count 152 = .ok (.bipush 12, 2) := by decide +kernel
theorem dX8_count_154 : decode cX8_count 154 = .ok (.istore_n 3, 1) := by decide +kernel
theorem dX8_count_155 : decode cX8_count 155 = .ok (.iload_n 3, 1) := by decide +kernel
theorem dX8_count_156 : decode cX8_count 156 = .ok (.bipush 24, 2) := by decide +kernel
theorem dX8_count_158 : decode cX8_count 158 = .ok (.if_icmp .ge 26, 3) := by decide +kernel
theorem dX8_count_161 : decode cX8_count 161 = .ok (.iload_n 2, 1) := by decide +kernel
theorem dX8_count_162 : decode cX8_count 162 = .ok (.aload_n 0, 1) := by decide +kernel
theorem dX8_count_163 : decode cX8_count 163 = .ok (.getfield 78, 3) := by decide +kernel
theorem dX8_count_166 : decode cX8_count 166 = .ok (.iload_n 3, 1) := by decide +kernel
theorem dX8_count_167 : decode cX8_count 167 = .ok (.baload, 1) := by decide +kernel
theorem dX8_count_168 : decode cX8_count 168 = .ok (.ifCond .eq 7, 3) := by decide +kernel
theorem dX8_count_171 : decode cX8_count 171 = .ok (.iconst 1, 1) := by decide +kernel
theorem dX8_count_172 : decode cX8_count 172 = .ok (.goto 4, 3) := by decide +kernel
theorem dX8_count_175 : decode cX8_count 175 = .ok (.iconst 0, 1) := by decide +kernel
theorem dX8_count_176 : decode cX8_count 176 = .ok (.iadd, 1) := by decide +kernel
theorem dX8_count_177 : decode cX8_count 177 = .ok (.istore_n 2, 1) := by decide +kernel
theorem dX8_count_178 : decode cX8_count 178 = .ok (.iinc 3 1, 3) := by decide +kernel
theorem dX8_count_181 : decode cX8_count 181 = .ok (.goto (-26), 3) := by decide +kernel
theorem dX8_count_184 : decode cX8_count 184 = .ok (.iload_n 2, 1) := by decide +kernel
theorem dX8_count_185 : decode cX8_count 185 = .ok (.ireturn, 1) := by decide +kernel
theorem dX8_count_186 : decode cX8_count 186 = .ok (.aload_n 0, 1) := by decide +kernel
theorem dX8_count_187 : decode cX8_count 187 = .ok (.invokevirtual 220, 3) := by decide +kernel
theorem dX8_count_190 : decode cX8_count 190 = .ok (.ireturn, 1) := by decide +kernel
theorem dX8_count_191 : decode cX8_count 191 = .ok (.iconst 0, 1) := by decide +kernel
theorem dX8_count_192 : decode cX8_count 192 = .ok (.istore_n 3, 1) := by decide +kernel
theorem dX8_count_193 : decode cX8_count 193 = .ok (.iload_n 3, 1) := by decide +kernel
theorem dX8_count_194 : decode cX8_count 194 = .ok (.bipush 12, 2) := by decide +kernel
theorem dX8_count_196 : decode cX8_count 196 = .ok (.if_icmp .ge 31, 3) := by decide +kernel
theorem dX8_count_199 : decode cX8_count 199 = .ok (.iload_n 2, 1) := by decide +kernel
theorem dX8_count_200 : decode cX8_count 200 = .ok (.aload_n 0, 1) := by decide +kernel
theorem dX8_count_201 : decode cX8_count 201 = .ok (.getfield 78, 3) := by decide +kernel
theorem dX8_count_204 : decode cX8_count 204 = .ok (.iload_n 3, 1) := by decide +kernel
theorem dX8_count_205 : decode cX8_count 205 = .ok (.baload, 1) := by decide +kernel
theorem dX8_count_206 : decode cX8_count 206 = .ok (.ifCond .eq 12, 3) := by decide +kernel
theorem dX8_count_209 : decode cX8_count 209 = .ok (.aload_n 0, 1) := by decide +kernel
theorem dX8_count_210 : decode cX8_count 210 = .ok (.getfield 108, 3) := by decide +kernel
theorem dX8_count_213 : decode cX8_count 213 = .ok (.iload_n 3, 1) := by decide +kernel
theorem dX8_count_214 : decode cX8_count 214 = .ok (.iaload, 1) := by decide +kernel
theorem dX8_count_215 : decode cX8_count 215 = .ok (.goto 4, 3) := by decide +kernel
theorem dX8_count_218 : decode cX8_count 218 = .ok (.iconst 0, 1) := by decide +kernel
theorem dX8_count_219 : decode cX8_count 219 = .ok (.iadd, 1) := by decide +kernel
theorem dX8_count_220 : decode cX8_count 220 = .ok (.istore_n 2, 1) := by decide +kernel
theorem dX8_count_221 : decode cX8_count 221 = .ok (.iinc 3 1, 3) := by decide +kernel
theorem dX8_count_224 : decode cX8_count 224 = .ok (.goto (-31), 3) := by decide +kernel
theorem dX8_count_227 : decode cX8_count 227 = .ok (.iload_n 2, 1) := by decide +kernel
theorem dX8_count_228 : decode cX8_count 228 = .ok (.ireturn, 1) := by decide +kernel
theorem dX8_count_229 : decode cX8_count 229 = .ok (.bipush (-4), 2) := by decide +kernel
theorem dX8_count_231 : decode cX8_count 231 = .ok (.ireturn, 1) := by decide +kernel
theorem dJ9_max_7cf53_0 : decode cJ9_max_7cf53 0 = .ok (.iload_n 0, 1) := by decide +kernel
theorem dJ9_max_7cf53_1 : decode cJ9_max_7cf53 1 = .ok (.iload_n 1, 1) := by decide +kernel
theorem dJ9_max_7cf53_2 : decode cJ9_max_7cf53 2 = .ok (.if_icmp .lt 7, 3) := by decide +kernel
theorem dJ9_max_7cf53_5 : decode cJ9_max_7cf53 5 = .ok (.iload_n 0, 1) := by decide +kernel
theorem dJ9_max_7cf53_6 : decode cJ9_max_7cf53 6 = .ok (.goto 4, 3) := by decide +kernel
theorem dJ9_max_7cf53_9 : decode cJ9_max_7cf53 9 = .ok (.iload_n 1, 1) := by decide +kernel
theorem dJ9_max_7cf53_10 : decode cJ9_max_7cf53 10 = .ok (.ireturn, 1) := by decide +kernel
theorem dJ9_min_7cf53_0 : decode cJ9_min_7cf53 0 = .ok (.iload_n 0, 1) := by decide +kernel
theorem dJ9_min_7cf53_1 : decode cJ9_min_7cf53 1 = .ok (.iload_n 1, 1) := by decide +kernel
theorem dJ9_min_7cf53_2 : decode cJ9_min_7cf53 2 = .ok (.if_icmp .gt 7, 3) := by decide +kernel
theorem dJ9_min_7cf53_5 : decode cJ9_min_7cf53 5 = .ok (.iload_n 0, 1) := by decide +kernel
theorem dJ9_min_7cf53_6 : decode cJ9_min_7cf53 6 = .ok (.goto 4, 3) := by decide +kernel
theorem dJ9_min_7cf53_9 : decode cJ9_min_7cf53 9 = .ok (.iload_n 1, 1) := by decide +kernel
theorem dJ9_min_7cf53_10 : decode cJ9_min_7cf53 10 = .ok (.ireturn, 1) := by decide +kernel
theorem dL_law_0 : decode cL_law 0 = .ok (.new 7, 3) := by decide +kernel
theorem dL_law_3 : decode cL_law 3 = .ok (.dup, 1) := by decide +kernel
theorem dL_law_4 : decode cL_law 4 = .ok (.invokespecial 9, 3) := by decide +kernel
theorem dL_law_7 : decode cL_law 7 = .ok (.astore_n 1, 1) := by decide +kernel
theorem dL_law_8 : decode cL_law 8 = .ok (.new 10, 3) := by decide +kernel
theorem dL_law_11 : decode cL_law 11 = .ok (.dup, 1) := by decide +kernel
theorem dL_law_12 : decode cL_law 12 = .ok (.invokespecial 12, 3) := by decide +kernel
theorem dL_law_15 : decode cL_law 15 = .ok (.astore_n 2, 1) := by decide +kernel
theorem dL_law_16 : decode cL_law 16 = .ok (.iconst 0, 1) := by decide +kernel
theorem dL_law_17 : decode cL_law 17 = .ok (.istore_n 3, 1) := by decide +kernel
theorem dL_law_18 : decode cL_law 18 = .ok (.iload_n 3, 1) := by decide +kernel
theorem dL_law_19 : decode cL_law 19 = .ok (.aload_n 0, 1) := by decide +kernel
theorem dL_law_20 : decode cL_law 20 = .ok (.arraylength, 1) := by decide +kernel
theorem dL_law_21 : decode cL_law 21 = .ok (.bipush 7, 2) := by decide +kernel
theorem dL_law_23 : decode cL_law 23 = .ok (.isub, 1) := by decide +kernel
theorem dL_law_24 : decode cL_law 24 = .ok (.if_icmp .gt 1145, 3) := by decide +kernel
theorem dL_law_27 : decode cL_law 27 = .ok (.aload_n 0, 1) := by decide +kernel
theorem dL_law_28 : decode cL_law 28 = .ok (.iload_n 3, 1) := by decide +kernel
theorem dL_law_29 : decode cL_law 29 = .ok (.iaload, 1) := by decide +kernel
theorem dL_law_30 : decode cL_law 30 = .ok (.bipush 31, 2) := by decide +kernel
theorem dL_law_32 : decode cL_law 32 = .ok (.iand, 1) := by decide +kernel
theorem dL_law_33 : decode cL_law 33 = .ok (.tableswitch 1130 0 22 #[107, 140, 163, 186, 209, 252, 285, 309, 352, 405, 448, 523, 566, 677, 772, 825, 858, 911, 944, 988, 1021, 1064, 1107], 107) := by decide +kernel
theorem dL_law_140 : decode cL_law 140 = .ok (.aload_n 1, 1) := by decide +kernel
theorem dL_law_141 : decode cL_law 141 = .ok (.aload_n 0, 1) := by decide +kernel
theorem dL_law_142 : decode cL_law 142 = .ok (.iload_n 3, 1) := by decide +kernel
theorem dL_law_143 : decode cL_law 143 = .ok (.iconst 1, 1) := by decide +kernel
theorem dL_law_144 : decode cL_law 144 = .ok (.iadd, 1) := by decide +kernel
theorem dL_law_145 : decode cL_law 145 = .ok (.iaload, 1) := by decide +kernel
theorem dL_law_146 : decode cL_law 146 = .ok (.aload_n 0, 1) := by decide +kernel
theorem dL_law_147 : decode cL_law 147 = .ok (.iload_n 3, 1) := by decide +kernel
theorem dL_law_148 : decode cL_law 148 = .ok (.iconst 2, 1) := by decide +kernel
theorem dL_law_149 : decode cL_law 149 = .ok (.iadd, 1) := by decide +kernel
theorem dL_law_150 : decode cL_law 150 = .ok (.iaload, 1) := by decide +kernel
theorem dL_law_151 : decode cL_law 151 = .ok (.invokevirtual 13, 3) := by decide +kernel
theorem dL_law_154 : decode cL_law 154 = .ok (.aload_n 2, 1) := by decide +kernel
theorem dL_law_155 : decode cL_law 155 = .ok (.aload_n 0, 1) := by decide +kernel
theorem dL_law_156 : decode cL_law 156 = .ok (.iload_n 3, 1) := by decide +kernel
theorem dL_law_157 : decode cL_law 157 = .ok (.iconst 1, 1) := by decide +kernel
theorem dL_law_158 : decode cL_law 158 = .ok (.iadd, 1) := by decide +kernel
theorem dL_law_159 : decode cL_law 159 = .ok (.iaload, 1) := by decide +kernel
theorem dL_law_160 : decode cL_law 160 = .ok (.aload_n 0, 1) := by decide +kernel
theorem dL_law_161 : decode cL_law 161 = .ok (.iload_n 3, 1) := by decide +kernel
theorem dL_law_162 : decode cL_law 162 = .ok (.iconst 2, 1) := by decide +kernel
theorem dL_law_163 : decode cL_law 163 = .ok (.iadd, 1) := by decide +kernel
theorem dL_law_164 : decode cL_law 164 = .ok (.iaload, 1) := by decide +kernel
theorem dL_law_165 : decode cL_law 165 = .ok (.invokevirtual 17, 3) := by decide +kernel
theorem dL_law_168 : decode cL_law 168 = .ok (.if_icmp .eq 995, 3) := by decide +kernel
theorem dL_law_171 : decode cL_law 171 = .ok (.iconst 0, 1) := by decide +kernel
theorem dL_law_172 : decode cL_law 172 = .ok (.ireturn, 1) := by decide +kernel
theorem dL_law_173 : decode cL_law 173 = .ok (.aload_n 1, 1) := by decide +kernel
theorem dL_law_174 : decode cL_law 174 = .ok (.aload_n 0, 1) := by decide +kernel
theorem dL_law_175 : decode cL_law 175 = .ok (.iload_n 3, 1) := by decide +kernel
theorem dL_law_176 : decode cL_law 176 = .ok (.iconst 1, 1) := by decide +kernel
theorem dL_law_177 : decode cL_law 177 = .ok (.iadd, 1) := by decide +kernel
theorem dL_law_178 : decode cL_law 178 = .ok (.iaload, 1) := by decide +kernel
theorem dL_law_179 : decode cL_law 179 = .ok (.invokevirtual 18, 3) := by decide +kernel
theorem dL_law_182 : decode cL_law 182 = .ok (.aload_n 2, 1) := by decide +kernel
theorem dL_law_183 : decode cL_law 183 = .ok (.aload_n 0, 1) := by decide +kernel
theorem dL_law_184 : decode cL_law 184 = .ok (.iload_n 3, 1) := by decide +kernel
theorem dL_law_185 : decode cL_law 185 = .ok (.iconst 1, 1) := by decide +kernel
theorem dL_law_186 : decode cL_law 186 = .ok (.iadd, 1) := by decide +kernel
theorem dL_law_187 : decode cL_law 187 = .ok (.iaload, 1) := by decide +kernel
theorem dL_law_188 : decode cL_law 188 = .ok (.invokevirtual 22, 3) := by decide +kernel
theorem dL_law_191 : decode cL_law 191 = .ok (.if_icmp .eq 972, 3) := by decide +kernel
theorem dL_law_194 : decode cL_law 194 = .ok (.iconst 0, 1) := by decide +kernel
theorem dL_law_195 : decode cL_law 195 = .ok (.ireturn, 1) := by decide +kernel
theorem dL_law_196 : decode cL_law 196 = .ok (.aload_n 1, 1) := by decide +kernel
theorem dL_law_197 : decode cL_law 197 = .ok (.aload_n 0, 1) := by decide +kernel
theorem dL_law_198 : decode cL_law 198 = .ok (.iload_n 3, 1) := by decide +kernel
theorem dL_law_199 : decode cL_law 199 = .ok (.iconst 1, 1) := by decide +kernel
theorem dL_law_200 : decode cL_law 200 = .ok (.iadd, 1) := by decide +kernel
theorem dL_law_201 : decode cL_law 201 = .ok (.iaload, 1) := by decide +kernel
theorem dL_law_202 : decode cL_law 202 = .ok (.invokevirtual 23, 3) := by decide +kernel
theorem dL_law_205 : decode cL_law 205 = .ok (.aload_n 2, 1) := by decide +kernel
theorem dL_law_206 : decode cL_law 206 = .ok (.aload_n 0, 1) := by decide +kernel
theorem dL_law_207 : decode cL_law 207 = .ok (.iload_n 3, 1) := by decide +kernel
theorem dL_law_208 : decode cL_law 208 = .ok (.iconst 1, 1) := by decide +kernel
theorem dL_law_209 : decode cL_law 209 = .ok (.iadd, 1) := by decide +kernel
theorem dL_law_210 : decode cL_law 210 = .ok (.iaload, 1) := by decide +kernel
theorem dL_law_211 : decode cL_law 211 = .ok (.invokevirtual 26, 3) := by decide +kernel
theorem dL_law_214 : decode cL_law 214 = .ok (.if_icmp .eq 949, 3) := by decide +kernel
theorem dL_law_217 : decode cL_law 217 = .ok (.iconst 0, 1) := by decide +kernel
theorem dL_law_218 : decode cL_law 218 = .ok (.ireturn, 1) := by decide +kernel
theorem dL_law_219 : decode cL_law 219 = .ok (.aload_n 1, 1) := by decide +kernel
theorem dL_law_220 : decode cL_law 220 = .ok (.aload_n 0, 1) := by decide +kernel
theorem dL_law_221 : decode cL_law 221 = .ok (.iload_n 3, 1) := by decide +kernel
theorem dL_law_222 : decode cL_law 222 = .ok (.iconst 1, 1) := by decide +kernel
theorem dL_law_223 : decode cL_law 223 = .ok (.iadd, 1) := by decide +kernel
theorem dL_law_224 : decode cL_law 224 = .ok (.iaload, 1) := by decide +kernel
theorem dL_law_225 : decode cL_law 225 = .ok (.invokevirtual 27, 3) := by decide +kernel
theorem dL_law_228 : decode cL_law 228 = .ok (.aload_n 2, 1) := by decide +kernel
theorem dL_law_229 : decode cL_law 229 = .ok (.aload_n 0, 1) := by decide +kernel
theorem dL_law_230 : decode cL_law 230 = .ok (.iload_n 3, 1) := by decide +kernel
theorem dL_law_231 : decode cL_law 231 = .ok (.iconst 1, 1) := by decide +kernel
theorem dL_law_232 : decode cL_law 232 = .ok (.iadd, 1) := by decide +kernel
theorem dL_law_233 : decode cL_law 233 = .ok (.iaload, 1) := by decide +kernel
theorem dL_law_234 : decode cL_law 234 = .ok (.invokevirtual 30, 3) := by decide +kernel
theorem dL_law_237 : decode cL_law 237 = .ok (.if_icmp .eq 926, 3) := by decide +kernel
theorem dL_law_240 : decode cL_law 240 = .ok (.iconst 0, 1) := by decide +kernel
theorem dL_law_241 : decode cL_law 241 = .ok (.ireturn, 1) := by decide +kernel
theorem dL_law_242 : decode cL_law 242 = .ok (.aload_n 1, 1) := by decide +kernel
theorem dL_law_243 : decode cL_law 243 = .ok (.aload_n 0, 1) := by decide +kernel
theorem dL_law_244 : decode cL_law 244 = .ok (.iload_n 3, 1) := by decide +kernel
theorem dL_law_245 : decode cL_law 245 = .ok (.iconst 1, 1) := by decide +kernel
theorem dL_law_246 : decode cL_law 246 = .ok (.iadd, 1) := by decide +kernel
theorem dL_law_247 : decode cL_law 247 = .ok (.iaload, 1) := by decide +kernel
theorem dL_law_248 : decode cL_law 248 = .ok (.aload_n 0, 1) := by decide +kernel
theorem dL_law_249 : decode cL_law 249 = .ok (.iload_n 3, 1) := by decide +kernel
theorem dL_law_250 : decode cL_law 250 = .ok (.iconst 2, 1) := by decide +kernel
theorem dL_law_251 : decode cL_law 251 = .ok (.iadd, 1) := by decide +kernel
theorem dL_law_252 : decode cL_law 252 = .ok (.iaload, 1) := by decide +kernel
theorem dL_law_253 : decode cL_law 253 = .ok (.aload_n 0, 1) := by decide +kernel
theorem dL_law_254 : decode cL_law 254 = .ok (.iload_n 3, 1) := by decide +kernel
theorem dL_law_255 : decode cL_law 255 = .ok (.iconst 3, 1) := by decide +kernel
theorem dL_law_256 : decode cL_law 256 = .ok (.iadd, 1) := by decide +kernel
theorem dL_law_257 : decode cL_law 257 = .ok (.iaload, 1) := by decide +kernel
theorem dL_law_258 : decode cL_law 258 = .ok (.invokevirtual 31, 3) := by decide +kernel
theorem dL_law_261 : decode cL_law 261 = .ok (.aload_n 2, 1) := by decide +kernel
theorem dL_law_262 : decode cL_law 262 = .ok (.aload_n 0, 1) := by decide +kernel
theorem dL_law_263 : decode cL_law 263 = .ok (.iload_n 3, 1) := by decide +kernel
theorem dL_law_264 : decode cL_law 264 = .ok (.iconst 1, 1) := by decide +kernel
theorem dL_law_265 : decode cL_law 265 = .ok (.iadd, 1) := by decide +kernel
theorem dL_law_266 : decode cL_law 266 = .ok (.iaload, 1) := by decide +kernel
theorem dL_law_267 : decode cL_law 267 = .ok (.aload_n 0, 1) := by decide +kernel
theorem dL_law_268 : decode cL_law 268 = .ok (.iload_n 3, 1) := by decide +kernel
theorem dL_law_269 : decode cL_law 269 = .ok (.iconst 2, 1) := by decide +kernel
theorem dL_law_270 : decode cL_law 270 = .ok (.iadd, 1) := by decide +kernel
theorem dL_law_271 : decode cL_law 271 = .ok (.iaload, 1) := by decide +kernel
theorem dL_law_272 : decode cL_law 272 = .ok (.aload_n 0, 1) := by decide +kernel
theorem dL_law_273 : decode cL_law 273 = .ok (.iload_n 3, 1) := by decide +kernel
theorem dL_law_274 : decode cL_law 274 = .ok (.iconst 3, 1) := by decide +kernel
theorem dL_law_275 : decode cL_law 275 = .ok (.iadd, 1) := by decide +kernel
theorem dL_law_276 : decode cL_law 276 = .ok (.iaload, 1) := by decide +kernel
theorem dL_law_277 : decode cL_law 277 = .ok (.invokevirtual 35, 3) := by decide +kernel
theorem dL_law_280 : decode cL_law 280 = .ok (.if_icmp .eq 883, 3) := by decide +kernel
theorem dL_law_283 : decode cL_law 283 = .ok (.iconst 0, 1) := by decide +kernel
theorem dL_law_284 : decode cL_law 284 = .ok (.ireturn, 1) := by decide +kernel
theorem dL_law_285 : decode cL_law 285 = .ok (.aload_n 1, 1) := by decide +kernel
theorem dL_law_286 : decode cL_law 286 = .ok (.aload_n 0, 1) := by decide +kernel
theorem dL_law_287 : decode cL_law 287 = .ok (.iload_n 3, 1) := by decide +kernel
theorem dL_law_288 : decode cL_law 288 = .ok (.iconst 1, 1) := by decide +kernel
theorem dL_law_289 : decode cL_law 289 = .ok (.iadd, 1) := by decide +kernel
theorem dL_law_290 : decode cL_law 290 = .ok (.iaload, 1) := by decide +kernel
theorem dL_law_291 : decode cL_law 291 = .ok (.aload_n 0, 1) := by decide +kernel
theorem dL_law_292 : decode cL_law 292 = .ok (.iload_n 3, 1) := by decide +kernel
theorem dL_law_293 : decode cL_law 293 = .ok (.iconst 2, 1) := by decide +kernel
theorem dL_law_294 : decode cL_law 294 = .ok (.iadd, 1) := by decide +kernel
theorem dL_law_295 : decode cL_law 295 = .ok (.iaload, 1) := by decide +kernel
theorem dL_law_296 : decode cL_law 296 = .ok (.invokevirtual 36, 3) := by decide +kernel
theorem dL_law_299 : decode cL_law 299 = .ok (.aload_n 2, 1) := by decide +kernel
theorem dL_law_300 : decode cL_law 300 = .ok (.aload_n 0, 1) := by decide +kernel
theorem dL_law_301 : decode cL_law 301 = .ok (.iload_n 3, 1) := by decide +kernel
theorem dL_law_302 : decode cL_law 302 = .ok (.iconst 1, 1) := by decide +kernel
theorem dL_law_303 : decode cL_law 303 = .ok (.iadd, 1) := by decide +kernel
theorem dL_law_304 : decode cL_law 304 = .ok (.iaload, 1) := by decide +kernel
theorem dL_law_305 : decode cL_law 305 = .ok (.aload_n 0, 1) := by decide +kernel
theorem dL_law_306 : decode cL_law 306 = .ok (.iload_n 3, 1) := by decide +kernel
theorem dL_law_307 : decode cL_law 307 = .ok (.iconst 2, 1) := by decide +kernel
theorem dL_law_308 : decode cL_law 308 = .ok (.iadd, 1) := by decide +kernel
theorem dL_law_309 : decode cL_law 309 = .ok (.iaload, 1) := by decide +kernel
theorem dL_law_310 : decode cL_law 310 = .ok (.invokevirtual 39, 3) := by decide +kernel
theorem dL_law_313 : decode cL_law 313 = .ok (.if_icmp .eq 850, 3) := by decide +kernel
theorem dL_law_316 : decode cL_law 316 = .ok (.iconst 0, 1) := by decide +kernel
theorem dL_law_317 : decode cL_law 317 = .ok (.ireturn, 1) := by decide +kernel
theorem dL_law_318 : decode cL_law 318 = .ok (.aload_n 1, 1) := by decide +kernel
theorem dL_law_319 : decode cL_law 319 = .ok (.aload_n 0, 1) := by decide +kernel
theorem dL_law_320 : decode cL_law 320 = .ok (.iload_n 3, 1) := by decide +kernel
theorem dL_law_321 : decode cL_law 321 = .ok (.iconst 1, 1) := by decide +kernel
theorem dL_law_322 : decode cL_law 322 = .ok (.iadd, 1) := by decide +kernel
theorem dL_law_323 : decode cL_law 323 = .ok (.iaload, 1) := by decide +kernel
theorem dL_law_324 : decode cL_law 324 = .ok (.invokevirtual 40, 3) := by decide +kernel
theorem dL_law_327 : decode cL_law 327 = .ok (.aload_n 2, 1) := by decide +kernel
theorem dL_law_328 : decode cL_law 328 = .ok (.aload_n 0, 1) := by decide +kernel
theorem dL_law_329 : decode cL_law 329 = .ok (.iload_n 3, 1) := by decide +kernel
theorem dL_law_330 : decode cL_law 330 = .ok (.iconst 1, 1) := by decide +kernel
theorem dL_law_331 : decode cL_law 331 = .ok (.iadd, 1) := by decide +kernel
theorem dL_law_332 : decode cL_law 332 = .ok (.iaload, 1) := by decide +kernel
theorem dL_law_333 : decode cL_law 333 = .ok (.invokevirtual 44, 3) := by decide +kernel
theorem dL_law_336 : decode cL_law 336 = .ok (.lcmp, 1) := by decide +kernel
theorem dL_law_337 : decode cL_law 337 = .ok (.ifCond .eq 826, 3) := by decide +kernel
theorem dL_law_340 : decode cL_law 340 = .ok (.iconst 0, 1) := by decide +kernel
theorem dL_law_341 : decode cL_law 341 = .ok (.ireturn, 1) := by decide +kernel
theorem dL_law_342 : decode cL_law 342 = .ok (.aload_n 1, 1) := by decide +kernel
theorem dL_law_343 : decode cL_law 343 = .ok (.aload_n 0, 1) := by decide +kernel
theorem dL_law_344 : decode cL_law 344 = .ok (.iload_n 3, 1) := by decide +kernel
theorem dL_law_345 : decode cL_law 345 = .ok (.iconst 1, 1) := by decide +kernel
theorem dL_law_346 : decode cL_law 346 = .ok (.iadd, 1) := by decide +kernel
theorem dL_law_347 : decode cL_law 347 = .ok (.iaload, 1) := by decide +kernel
theorem dL_law_348 : decode cL_law 348 = .ok (.aload_n 0, 1) := by decide +kernel
theorem dL_law_349 : decode cL_law 349 = .ok (.iload_n 3, 1) := by decide +kernel
theorem dL_law_350 : decode cL_law 350 = .ok (.iconst 2, 1) := by decide +kernel
theorem dL_law_351 : decode cL_law 351 = .ok (.iadd, 1) := by decide +kernel
theorem dL_law_352 : decode cL_law 352 = .ok (.iaload, 1) := by decide +kernel
theorem dL_law_353 : decode cL_law 353 = .ok (.aload_n 0, 1) := by decide +kernel
theorem dL_law_354 : decode cL_law 354 = .ok (.iload_n 3, 1) := by decide +kernel
theorem dL_law_355 : decode cL_law 355 = .ok (.iconst 3, 1) := by decide +kernel
theorem dL_law_356 : decode cL_law 356 = .ok (.iadd, 1) := by decide +kernel
theorem dL_law_357 : decode cL_law 357 = .ok (.iaload, 1) := by decide +kernel
theorem dL_law_358 : decode cL_law 358 = .ok (.invokevirtual 45, 3) := by decide +kernel
theorem dL_law_361 : decode cL_law 361 = .ok (.aload_n 2, 1) := by decide +kernel
theorem dL_law_362 : decode cL_law 362 = .ok (.aload_n 0, 1) := by decide +kernel
theorem dL_law_363 : decode cL_law 363 = .ok (.iload_n 3, 1) := by decide +kernel
theorem dL_law_364 : decode cL_law 364 = .ok (.iconst 1, 1) := by decide +kernel
theorem dL_law_365 : decode cL_law 365 = .ok (.iadd, 1) := by decide +kernel
theorem dL_law_366 : decode cL_law 366 = .ok (.iaload, 1) := by decide +kernel
theorem dL_law_367 : decode cL_law 367 = .ok (.aload_n 0, 1) := by decide +kernel
theorem dL_law_368 : decode cL_law 368 = .ok (.iload_n 3, 1) := by decide +kernel
theorem dL_law_369 : decode cL_law 369 = .ok (.iconst 2, 1) := by decide +kernel
theorem dL_law_370 : decode cL_law 370 = .ok (.iadd, 1) := by decide +kernel
theorem dL_law_371 : decode cL_law 371 = .ok (.iaload, 1) := by decide +kernel
theorem dL_law_372 : decode cL_law 372 = .ok (.aload_n 0, 1) := by decide +kernel
theorem dL_law_373 : decode cL_law 373 = .ok (.iload_n 3, 1) := by decide +kernel
theorem dL_law_374 : decode cL_law 374 = .ok (.iconst 3, 1) := by decide +kernel
theorem dL_law_375 : decode cL_law 375 = .ok (.iadd, 1) := by decide +kernel
theorem dL_law_376 : decode cL_law 376 = .ok (.iaload, 1) := by decide +kernel
theorem dL_law_377 : decode cL_law 377 = .ok (.invokevirtual 48, 3) := by decide +kernel
theorem dL_law_380 : decode cL_law 380 = .ok (.if_icmp .eq 783, 3) := by decide +kernel
theorem dL_law_383 : decode cL_law 383 = .ok (.iconst 0, 1) := by decide +kernel
theorem dL_law_384 : decode cL_law 384 = .ok (.ireturn, 1) := by decide +kernel
theorem dL_law_385 : decode cL_law 385 = .ok (.aload_n 1, 1) := by decide +kernel
theorem dL_law_386 : decode cL_law 386 = .ok (.aload_n 0, 1) := by decide +kernel
theorem dL_law_387 : decode cL_law 387 = .ok (.iload_n 3, 1) := by decide +kernel
theorem dL_law_388 : decode cL_law 388 = .ok (.iconst 1, 1) := by decide +kernel
theorem dL_law_389 : decode cL_law 389 = .ok (.iadd, 1) := by decide +kernel
theorem dL_law_390 : decode cL_law 390 = .ok (.iaload, 1) := by decide +kernel
theorem dL_law_391 : decode cL_law 391 = .ok (.aload_n 0, 1) := by decide +kernel
theorem dL_law_392 : decode cL_law 392 = .ok (.iload_n 3, 1) := by decide +kernel
theorem dL_law_393 : decode cL_law 393 = .ok (.iconst 2, 1) := by decide +kernel
theorem dL_law_394 : decode cL_law 394 = .ok (.iadd, 1) := by decide +kernel
theorem dL_law_395 : decode cL_law 395 = .ok (.iaload, 1) := by decide +kernel
theorem dL_law_396 : decode cL_law 396 = .ok (.aload_n 0, 1) := by decide +kernel
theorem dL_law_397 : decode cL_law 397 = .ok (.iload_n 3, 1) := by decide +kernel
theorem dL_law_398 : decode cL_law 398 = .ok (.iconst 3, 1) := by decide +kernel
theorem dL_law_399 : decode cL_law 399 = .ok (.iadd, 1) := by decide +kernel
theorem dL_law_400 : decode cL_law 400 = .ok (.iaload, 1) := by decide +kernel
theorem dL_law_401 : decode cL_law 401 = .ok (.aload_n 0, 1) := by decide +kernel
theorem dL_law_402 : decode cL_law 402 = .ok (.iload_n 3, 1) := by decide +kernel
theorem dL_law_403 : decode cL_law 403 = .ok (.iconst 4, 1) := by decide +kernel
theorem dL_law_404 : decode cL_law 404 = .ok (.iadd, 1) := by decide +kernel
theorem dL_law_405 : decode cL_law 405 = .ok (.iaload, 1) := by decide +kernel
theorem dL_law_406 : decode cL_law 406 = .ok (.invokevirtual 49, 3) := by decide +kernel
theorem dL_law_409 : decode cL_law 409 = .ok (.aload_n 2, 1) := by decide +kernel
theorem dL_law_410 : decode cL_law 410 = .ok (.aload_n 0, 1) := by decide +kernel
theorem dL_law_411 : decode cL_law 411 = .ok (.iload_n 3, 1) := by decide +kernel
theorem dL_law_412 : decode cL_law 412 = .ok (.iconst 1, 1) := by decide +kernel
theorem dL_law_413 : decode cL_law 413 = .ok (.iadd, 1) := by decide +kernel
theorem dL_law_414 : decode cL_law 414 = .ok (.iaload, 1) := by decide +kernel
theorem dL_law_415 : decode cL_law 415 = .ok (.aload_n 0, 1) := by decide +kernel
theorem dL_law_416 : decode cL_law 416 = .ok (.iload_n 3, 1) := by decide +kernel
theorem dL_law_417 : decode cL_law 417 = .ok (.iconst 2, 1) := by decide +kernel
theorem dL_law_418 : decode cL_law 418 = .ok (.iadd, 1) := by decide +kernel
theorem dL_law_419 : decode cL_law 419 = .ok (.iaload, 1) := by decide +kernel
theorem dL_law_420 : decode cL_law 420 = .ok (.aload_n 0, 1) := by decide +kernel
theorem dL_law_421 : decode cL_law 421 = .ok (.iload_n 3, 1) := by decide +kernel
theorem dL_law_422 : decode cL_law 422 = .ok (.iconst 3, 1) := by decide +kernel
theorem dL_law_423 : decode cL_law 423 = .ok (.iadd, 1) := by decide +kernel
theorem dL_law_424 : decode cL_law 424 = .ok (.iaload, 1) := by decide +kernel
theorem dL_law_425 : decode cL_law 425 = .ok (.aload_n 0, 1) := by decide +kernel
theorem dL_law_426 : decode cL_law 426 = .ok (.iload_n 3, 1) := by decide +kernel
theorem dL_law_427 : decode cL_law 427 = .ok (.iconst 4, 1) := by decide +kernel
theorem dL_law_428 : decode cL_law 428 = .ok (.iadd, 1) := by decide +kernel
theorem dL_law_429 : decode cL_law 429 = .ok (.iaload, 1) := by decide +kernel
theorem dL_law_430 : decode cL_law 430 = .ok (.invokevirtual 53, 3) := by decide +kernel
theorem dL_law_433 : decode cL_law 433 = .ok (.if_icmp .eq 730, 3) := by decide +kernel
theorem dL_law_436 : decode cL_law 436 = .ok (.iconst 0, 1) := by decide +kernel
theorem dL_law_437 : decode cL_law 437 = .ok (.ireturn, 1) := by decide +kernel
theorem dL_law_438 : decode cL_law 438 = .ok (.aload_n 1, 1) := by decide +kernel
theorem dL_law_439 : decode cL_law 439 = .ok (.aload_n 0, 1) := by decide +kernel
theorem dL_law_440 : decode cL_law 440 = .ok (.iload_n 3, 1) := by decide +kernel
theorem dL_law_441 : decode cL_law 441 = .ok (.iconst 1, 1) := by decide +kernel
theorem dL_law_442 : decode cL_law 442 = .ok (.iadd, 1) := by decide +kernel
theorem dL_law_443 : decode cL_law 443 = .ok (.iaload, 1) := by decide +kernel
theorem dL_law_444 : decode cL_law 444 = .ok (.aload_n 0, 1) := by decide +kernel
theorem dL_law_445 : decode cL_law 445 = .ok (.iload_n 3, 1) := by decide +kernel
theorem dL_law_446 : decode cL_law 446 = .ok (.iconst 2, 1) := by decide +kernel
theorem dL_law_447 : decode cL_law 447 = .ok (.iadd, 1) := by decide +kernel
theorem dL_law_448 : decode cL_law 448 = .ok (.iaload, 1) := by decide +kernel
theorem dL_law_449 : decode cL_law 449 = .ok (.aload_n 0, 1) := by decide +kernel
theorem dL_law_450 : decode cL_law 450 = .ok (.iload_n 3, 1) := by decide +kernel
theorem dL_law_451 : decode cL_law 451 = .ok (.iconst 3, 1) := by decide +kernel
theorem dL_law_452 : decode cL_law 452 = .ok (.iadd, 1) := by decide +kernel
theorem dL_law_453 : decode cL_law 453 = .ok (.iaload, 1) := by decide +kernel
theorem dL_law_454 : decode cL_law 454 = .ok (.invokevirtual 54, 3) := by decide +kernel
theorem dL_law_457 : decode cL_law 457 = .ok (.aload_n 2, 1) := by decide +kernel
theorem dL_law_458 : decode cL_law 458 = .ok (.aload_n 0, 1) := by decide +kernel
theorem dL_law_459 : decode cL_law 459 = .ok (.iload_n 3, 1) := by decide +kernel
theorem dL_law_460 : decode cL_law 460 = .ok (.iconst 1, 1) := by decide +kernel
theorem dL_law_461 : decode cL_law 461 = .ok (.iadd, 1) := by decide +kernel
theorem dL_law_462 : decode cL_law 462 = .ok (.iaload, 1) := by decide +kernel
theorem dL_law_463 : decode cL_law 463 = .ok (.aload_n 0, 1) := by decide +kernel
theorem dL_law_464 : decode cL_law 464 = .ok (.iload_n 3, 1) := by decide +kernel
theorem dL_law_465 : decode cL_law 465 = .ok (.iconst 2, 1) := by decide +kernel
theorem dL_law_466 : decode cL_law 466 = .ok (.iadd, 1) := by decide +kernel
theorem dL_law_467 : decode cL_law 467 = .ok (.iaload, 1) := by decide +kernel
theorem dL_law_468 : decode cL_law 468 = .ok (.aload_n 0, 1) := by decide +kernel
theorem dL_law_469 : decode cL_law 469 = .ok (.iload_n 3, 1) := by decide +kernel
theorem dL_law_470 : decode cL_law 470 = .ok (.iconst 3, 1) := by decide +kernel
theorem dL_law_471 : decode cL_law 471 = .ok (.iadd, 1) := by decide +kernel
theorem dL_law_472 : decode cL_law 472 = .ok (.iaload, 1) := by decide +kernel
theorem dL_law_473 : decode cL_law 473 = .ok (.invokevirtual 57, 3) := by decide +kernel
theorem dL_law_476 : decode cL_law 476 = .ok (.if_icmp .eq 687, 3) := by decide +kernel
theorem dL_law_479 : decode cL_law 479 = .ok (.iconst 0, 1) := by decide +kernel
theorem dL_law_480 : decode cL_law 480 = .ok (.ireturn, 1) := by decide +kernel
theorem dL_law_481 : decode cL_law 481 = .ok (.aload_n 1, 1) := by decide +kernel
theorem dL_law_482 : decode cL_law 482 = .ok (.aload_n 0, 1) := by decide +kernel
theorem dL_law_483 : decode cL_law 483 = .ok (.iload_n 3, 1) := by decide +kernel
theorem dL_law_484 : decode cL_law 484 = .ok (.iconst 1, 1) := by decide +kernel
theorem dL_law_485 : decode cL_law 485 = .ok (.iadd, 1) := by decide +kernel
theorem dL_law_486 : decode cL_law 486 = .ok (.iaload, 1) := by decide +kernel
theorem dL_law_487 : decode cL_law 487 = .ok (.aload_n 0, 1) := by decide +kernel
theorem dL_law_488 : decode cL_law 488 = .ok (.iload_n 3, 1) := by decide +kernel
theorem dL_law_489 : decode cL_law 489 = .ok (.iconst 2, 1) := by decide +kernel
theorem dL_law_490 : decode cL_law 490 = .ok (.iadd, 1) := by decide +kernel
theorem dL_law_491 : decode cL_law 491 = .ok (.iaload, 1) := by decide +kernel
theorem dL_law_492 : decode cL_law 492 = .ok (.aload_n 0, 1) := by decide +kernel
theorem dL_law_493 : decode cL_law 493 = .ok (.iload_n 3, 1) := by decide +kernel
theorem dL_law_494 : decode cL_law 494 = .ok (.iconst 3, 1) := by decide +kernel
theorem dL_law_495 : decode cL_law 495 = .ok (.iadd, 1) := by decide +kernel
theorem dL_law_496 : decode cL_law 496 = .ok (.iaload, 1) := by decide +kernel
theorem dL_law_497 : decode cL_law 497 = .ok (.aload_n 0, 1) := by decide +kernel
theorem dL_law_498 : decode cL_law 498 = .ok (.iload_n 3, 1) := by decide +kernel
theorem dL_law_499 : decode cL_law 499 = .ok (.iconst 4, 1) := by decide +kernel
theorem dL_law_500 : decode cL_law 500 = .ok (.iadd, 1) := by decide +kernel
theorem dL_law_501 : decode cL_law 501 = .ok (.iaload, 1) := by decide +kernel
theorem dL_law_502 : decode cL_law 502 = .ok (.aload_n 0, 1) := by decide +kernel
theorem dL_law_503 : decode cL_law 503 = .ok (.iload_n 3, 1) := by decide +kernel
theorem dL_law_504 : decode cL_law 504 = .ok (.iconst 5, 1) := by decide +kernel
theorem dL_law_505 : decode cL_law 505 = .ok (.iadd, 1) := by decide +kernel
theorem dL_law_506 : decode cL_law 506 = .ok (.iaload, 1) := by decide +kernel
theorem dL_law_507 : decode cL_law 507 = .ok (.aload_n 0, 1) := by decide +kernel
theorem dL_law_508 : decode cL_law 508 = .ok (.iload_n 3, 1) := by decide +kernel
theorem dL_law_509 : decode cL_law 509 = .ok (.bipush 6, 2) := by decide +kernel
theorem dL_law_511 : decode cL_law 511 = .ok (.iadd, 1) := by decide +kernel
theorem dL_law_512 : decode cL_law 512 = .ok (.iaload, 1) := by decide +kernel
theorem dL_law_513 : decode cL_law 513 = .ok (.invokevirtual 58, 3) := by decide +kernel
theorem dL_law_516 : decode cL_law 516 = .ok (.aload_n 2, 1) := by decide +kernel
theorem dL_law_517 : decode cL_law 517 = .ok (.aload_n 0, 1) := by decide +kernel
theorem dL_law_518 : decode cL_law 518 = .ok (.iload_n 3, 1) := by decide +kernel
theorem dL_law_519 : decode cL_law 519 = .ok (.iconst 1, 1) := by decide +kernel
theorem dL_law_520 : decode cL_law 520 = .ok (.iadd, 1) := by decide +kernel
theorem dL_law_521 : decode cL_law 521 = .ok (.iaload, 1) := by decide +kernel
theorem dL_law_522 : decode cL_law 522 = .ok (.aload_n 0, 1) := by decide +kernel
theorem dL_law_523 : decode cL_law 523 = .ok (.iload_n 3, 1) := by decide +kernel
theorem dL_law_524 : decode cL_law 524 = .ok (.iconst 2, 1) := by decide +kernel
theorem dL_law_525 : decode cL_law 525 = .ok (.iadd, 1) := by decide +kernel
theorem dL_law_526 : decode cL_law 526 = .ok (.iaload, 1) := by decide +kernel
theorem dL_law_527 : decode cL_law 527 = .ok (.aload_n 0, 1) := by decide +kernel
theorem dL_law_528 : decode cL_law 528 = .ok (.iload_n 3, 1) := by decide +kernel
theorem dL_law_529 : decode cL_law 529 = .ok (.iconst 3, 1) := by decide +kernel
theorem dL_law_530 : decode cL_law 530 = .ok (.iadd, 1) := by decide +kernel
theorem dL_law_531 : decode cL_law 531 = .ok (.iaload, 1) := by decide +kernel
theorem dL_law_532 : decode cL_law 532 = .ok (.aload_n 0, 1) := by decide +kernel
theorem dL_law_533 : decode cL_law 533 = .ok (.iload_n 3, 1) := by decide +kernel
theorem dL_law_534 : decode cL_law 534 = .ok (.iconst 4, 1) := by decide +kernel
theorem dL_law_535 : decode cL_law 535 = .ok (.iadd, 1) := by decide +kernel
theorem dL_law_536 : decode cL_law 536 = .ok (.iaload, 1) := by decide +kernel
theorem dL_law_537 : decode cL_law 537 = .ok (.aload_n 0, 1) := by decide +kernel
theorem dL_law_538 : decode cL_law 538 = .ok (.iload_n 3, 1) := by decide +kernel
theorem dL_law_539 : decode cL_law 539 = .ok (.iconst 5, 1) := by decide +kernel
theorem dL_law_540 : decode cL_law 540 = .ok (.iadd, 1) := by decide +kernel
theorem dL_law_541 : decode cL_law 541 = .ok (.iaload, 1) := by decide +kernel
theorem dL_law_542 : decode cL_law 542 = .ok (.aload_n 0, 1) := by decide +kernel
theorem dL_law_543 : decode cL_law 543 = .ok (.iload_n 3, 1) := by decide +kernel
theorem dL_law_544 : decode cL_law 544 = .ok (.bipush 6, 2) := by decide +kernel
theorem dL_law_546 : decode cL_law 546 = .ok (.iadd, 1) := by decide +kernel
theorem dL_law_547 : decode cL_law 547 = .ok (.iaload, 1) := by decide +kernel
theorem dL_law_548 : decode cL_law 548 = .ok (.invokevirtual 62, 3) := by decide +kernel
theorem dL_law_551 : decode cL_law 551 = .ok (.if_icmp .eq 612, 3) := by decide +kernel
theorem dL_law_554 : decode cL_law 554 = .ok (.iconst 0, 1) := by decide +kernel
theorem dL_law_555 : decode cL_law 555 = .ok (.ireturn, 1) := by decide +kernel
theorem dL_law_556 : decode cL_law 556 = .ok (.aload_n 1, 1) := by decide +kernel
theorem dL_law_557 : decode cL_law 557 = .ok (.aload_n 0, 1) := by decide +kernel
theorem dL_law_558 : decode cL_law 558 = .ok (.iload_n 3, 1) := by decide +kernel
theorem dL_law_559 : decode cL_law 559 = .ok (.iconst 1, 1) := by decide +kernel
theorem dL_law_560 : decode cL_law 560 = .ok (.iadd, 1) := by decide +kernel
theorem dL_law_561 : decode cL_law 561 = .ok (.iaload, 1) := by decide +kernel
theorem dL_law_562 : decode cL_law 562 = .ok (.aload_n 0, 1) := by decide +kernel
theorem dL_law_563 : decode cL_law 563 = .ok (.iload_n 3, 1) := by decide +kernel
theorem dL_law_564 : decode cL_law 564 = .ok (.iconst 2, 1) := by decide +kernel
theorem dL_law_565 : decode cL_law 565 = .ok (.iadd, 1) := by decide +kernel
theorem dL_law_566 : decode cL_law 566 = .ok (.iaload, 1) := by decide +kernel
theorem dL_law_567 : decode cL_law 567 = .ok (.aload_n 0, 1) := by decide +kernel
theorem dL_law_568 : decode cL_law 568 = .ok (.iload_n 3, 1) := by decide +kernel
theorem dL_law_569 : decode cL_law 569 = .ok (.iconst 3, 1) := by decide +kernel
theorem dL_law_570 : decode cL_law 570 = .ok (.iadd, 1) := by decide +kernel
theorem dL_law_571 : decode cL_law 571 = .ok (.iaload, 1) := by decide +kernel
theorem dL_law_572 : decode cL_law 572 = .ok (.invokevirtual 63, 3) := by decide +kernel
theorem dL_law_575 : decode cL_law 575 = .ok (.aload_n 2, 1) := by decide +kernel
theorem dL_law_576 : decode cL_law 576 = .ok (.aload_n 0, 1) := by decide +kernel
theorem dL_law_577 : decode cL_law 577 = .ok (.iload_n 3, 1) := by decide +kernel
theorem dL_law_578 : decode cL_law 578 = .ok (.iconst 1, 1) := by decide +kernel
theorem dL_law_579 : decode cL_law 579 = .ok (.iadd, 1) := by decide +kernel
theorem dL_law_580 : decode cL_law 580 = .ok (.iaload, 1) := by decide +kernel
theorem dL_law_581 : decode cL_law 581 = .ok (.aload_n 0, 1) := by decide +kernel
theorem dL_law_582 : decode cL_law 582 = .ok (.iload_n 3, 1) := by decide +kernel
theorem dL_law_583 : decode cL_law 583 = .ok (.iconst 2, 1) := by decide +kernel
theorem dL_law_584 : decode cL_law 584 = .ok (.iadd, 1) := by decide +kernel
theorem dL_law_585 : decode cL_law 585 = .ok (.iaload, 1) := by decide +kernel
theorem dL_law_586 : decode cL_law 586 = .ok (.aload_n 0, 1) := by decide +kernel
theorem dL_law_587 : decode cL_law 587 = .ok (.iload_n 3, 1) := by decide +kernel
theorem dL_law_588 : decode cL_law 588 = .ok (.iconst 3, 1) := by decide +kernel
theorem dL_law_589 : decode cL_law 589 = .ok (.iadd, 1) := by decide +kernel
theorem dL_law_590 : decode cL_law 590 = .ok (.iaload, 1) := by decide +kernel
theorem dL_law_591 : decode cL_law 591 = .ok (.invokevirtual 66, 3) := by decide +kernel
theorem dL_law_594 : decode cL_law 594 = .ok (.if_icmp .eq 569, 3) := by decide +kernel
theorem dL_law_597 : decode cL_law 597 = .ok (.iconst 0, 1) := by decide +kernel
theorem dL_law_598 : decode cL_law 598 = .ok (.ireturn, 1) := by decide +kernel
theorem dL_law_599 : decode cL_law 599 = .ok (.aload_n 1, 1) := by decide +kernel
theorem dL_law_600 : decode cL_law 600 = .ok (.aload_n 0, 1) := by decide +kernel
theorem dL_law_601 : decode cL_law 601 = .ok (.iload_n 3, 1) := by decide +kernel
theorem dL_law_602 : decode cL_law 602 = .ok (.iconst 1, 1) := by decide +kernel
theorem dL_law_603 : decode cL_law 603 = .ok (.iadd, 1) := by decide +kernel
theorem dL_law_604 : decode cL_law 604 = .ok (.iaload, 1) := by decide +kernel
theorem dL_law_605 : decode cL_law 605 = .ok (.aload_n 0, 1) := by decide +kernel
theorem dL_law_606 : decode cL_law 606 = .ok (.iload_n 3, 1) := by decide +kernel
theorem dL_law_607 : decode cL_law 607 = .ok (.iconst 2, 1) := by decide +kernel
theorem dL_law_608 : decode cL_law 608 = .ok (.iadd, 1) := by decide +kernel
theorem dL_law_609 : decode cL_law 609 = .ok (.iaload, 1) := by decide +kernel
theorem dL_law_610 : decode cL_law 610 = .ok (.aload_n 0, 1) := by decide +kernel
theorem dL_law_611 : decode cL_law 611 = .ok (.iload_n 3, 1) := by decide +kernel
theorem dL_law_612 : decode cL_law 612 = .ok (.iconst 3, 1) := by decide +kernel
theorem dL_law_613 : decode cL_law 613 = .ok (.iadd, 1) := by decide +kernel
theorem dL_law_614 : decode cL_law 614 = .ok (.iaload, 1) := by decide +kernel
theorem dL_law_615 : decode cL_law 615 = .ok (.i2l, 1) := by decide +kernel
theorem dL_law_616 : decode cL_law 616 = .ok (.bipush 32, 2) := by decide +kernel
theorem dL_law_618 : decode cL_law 618 = .ok (.lshl, 1) := by decide +kernel
theorem dL_law_619 : decode cL_law 619 = .ok (.aload_n 0, 1) := by decide +kernel
theorem dL_law_620 : decode cL_law 620 = .ok (.iload_n 3, 1) := by decide +kernel
theorem dL_law_621 : decode cL_law 621 = .ok (.iconst 4, 1) := by decide +kernel
theorem dL_law_622 : decode cL_law 622 = .ok (.iadd, 1) := by decide +kernel
theorem dL_law_623 : decode cL_law 623 = .ok (.iaload, 1) := by decide +kernel
theorem dL_law_624 : decode cL_law 624 = .ok (.i2l, 1) := by decide +kernel
theorem dL_law_625 : decode cL_law 625 = .ok (.ldc2_w 67, 3) := by decide +kernel
theorem dL_law_628 : decode cL_law 628 = .ok (.land, 1) := by decide +kernel
theorem dL_law_629 : decode cL_law 629 = .ok (.lor, 1) := by decide +kernel
theorem dL_law_630 : decode cL_law 630 = .ok (.aload_n 0, 1) := by decide +kernel
theorem dL_law_631 : decode cL_law 631 = .ok (.iload_n 3, 1) := by decide +kernel
theorem dL_law_632 : decode cL_law 632 = .ok (.iconst 5, 1) := by decide +kernel
theorem dL_law_633 : decode cL_law 633 = .ok (.iadd, 1) := by decide +kernel
theorem dL_law_634 : decode cL_law 634 = .ok (.iaload, 1) := by decide +kernel
theorem dL_law_635 : decode cL_law 635 = .ok (.aload_n 0, 1) := by decide +kernel
theorem dL_law_636 : decode cL_law 636 = .ok (.iload_n 3, 1) := by decide +kernel
theorem dL_law_637 : decode cL_law 637 = .ok (.bipush 6, 2) := by decide +kernel
theorem dL_law_639 : decode cL_law 639 = .ok (.iadd, 1) := by decide +kernel
theorem dL_law_640 : decode cL_law 640 = .ok (.iaload, 1) := by decide +kernel
theorem dL_law_641 : decode cL_law 641 = .ok (.ifCond .eq 7, 3) := by decide +kernel
theorem dL_law_644 : decode cL_law 644 = .ok (.iconst 1, 1) := by decide +kernel
theorem dL_law_645 : decode cL_law 645 = .ok (.goto 4, 3) := by decide +kernel
theorem dL_law_648 : decode cL_law 648 = .ok (.iconst 0, 1) := by decide +kernel
theorem dL_law_649 : decode cL_law 649 = .ok (.invokevirtual 69, 3) := by decide +kernel
theorem dL_law_652 : decode cL_law 652 = .ok (.aload_n 2, 1) := by decide +kernel
theorem dL_law_653 : decode cL_law 653 = .ok (.aload_n 0, 1) := by decide +kernel
theorem dL_law_654 : decode cL_law 654 = .ok (.iload_n 3, 1) := by decide +kernel
theorem dL_law_655 : decode cL_law 655 = .ok (.iconst 1, 1) := by decide +kernel
theorem dL_law_656 : decode cL_law 656 = .ok (.iadd, 1) := by decide +kernel
theorem dL_law_657 : decode cL_law 657 = .ok (.iaload, 1) := by decide +kernel
theorem dL_law_658 : decode cL_law 658 = .ok (.aload_n 0, 1) := by decide +kernel
theorem dL_law_659 : decode cL_law 659 = .ok (.iload_n 3, 1) := by decide +kernel
theorem dL_law_660 : decode cL_law 660 = .ok (.iconst 2, 1) := by decide +kernel
theorem dL_law_661 : decode cL_law 661 = .ok (.iadd, 1) := by decide +kernel
theorem dL_law_662 : decode cL_law 662 = .ok (.iaload, 1) := by decide +kernel
theorem dL_law_663 : decode cL_law 663 = .ok (.aload_n 0, 1) := by decide +kernel
theorem dL_law_664 : decode cL_law 664 = .ok (.iload_n 3, 1) := by decide +kernel
theorem dL_law_665 : decode cL_law 665 = .ok (.iconst 3, 1) := by decide +kernel
theorem dL_law_666 : decode cL_law 666 = .ok (.iadd, 1) := by decide +kernel
theorem dL_law_667 : decode cL_law 667 = .ok (.iaload, 1) := by decide +kernel
theorem dL_law_668 : decode cL_law 668 = .ok (.i2l, 1) := by decide +kernel
theorem dL_law_669 : decode cL_law 669 = .ok (.bipush 32, 2) := by decide +kernel
theorem dL_law_671 : decode cL_law 671 = .ok (.lshl, 1) := by decide +kernel
theorem dL_law_672 : decode cL_law 672 = .ok (.aload_n 0, 1) := by decide +kernel
theorem dL_law_673 : decode cL_law 673 = .ok (.iload_n 3, 1) := by decide +kernel
theorem dL_law_674 : decode cL_law 674 = .ok (.iconst 4, 1) := by decide +kernel
theorem dL_law_675 : decode cL_law 675 = .ok (.iadd, 1) := by decide +kernel
theorem dL_law_676 : decode cL_law 676 = .ok (.iaload, 1) := by decide +kernel
theorem dL_law_677 : decode cL_law 677 = .ok (.i2l, 1) := by decide +kernel
theorem dL_law_678 : decode cL_law 678 = .ok (.ldc2_w 67, 3) := by decide +kernel
theorem dL_law_681 : decode cL_law 681 = .ok (.land, 1) := by decide +kernel
theorem dL_law_682 : decode cL_law 682 = .ok (.lor, 1) := by decide +kernel
theorem dL_law_683 : decode cL_law 683 = .ok (.aload_n 0, 1) := by decide +kernel
theorem dL_law_684 : decode cL_law 684 = .ok (.iload_n 3, 1) := by decide +kernel
theorem dL_law_685 : decode cL_law 685 = .ok (.iconst 5, 1) := by decide +kernel
theorem dL_law_686 : decode cL_law 686 = .ok (.iadd, 1) := by decide +kernel
theorem dL_law_687 : decode cL_law 687 = .ok (.iaload, 1) := by decide +kernel
theorem dL_law_688 : decode cL_law 688 = .ok (.aload_n 0, 1) := by decide +kernel
theorem dL_law_689 : decode cL_law 689 = .ok (.iload_n 3, 1) := by decide +kernel
theorem dL_law_690 : decode cL_law 690 = .ok (.bipush 6, 2) := by decide +kernel
theorem dL_law_692 : decode cL_law 692 = .ok (.iadd, 1) := by decide +kernel
theorem dL_law_693 : decode cL_law 693 = .ok (.iaload, 1) := by decide +kernel
theorem dL_law_694 : decode cL_law 694 = .ok (.ifCond .eq 7, 3) := by decide +kernel
theorem dL_law_697 : decode cL_law 697 = .ok (.iconst 1, 1) := by decide +kernel
theorem dL_law_698 : decode cL_law 698 = .ok (.goto 4, 3) := by decide +kernel
theorem dL_law_701 : decode cL_law 701 = .ok (.iconst 0, 1) := by decide +kernel
theorem dL_law_702 : decode cL_law 702 = .ok (.invokevirtual 73, 3) := by decide +kernel
theorem dL_law_705 : decode cL_law 705 = .ok (.if_icmp .eq 458, 3) := by decide +kernel
theorem dL_law_708 : decode cL_law 708 = .ok (.iconst 0, 1) := by decide +kernel
theorem dL_law_709 : decode cL_law 709 = .ok (.ireturn, 1) := by decide +kernel
theorem dL_law_710 : decode cL_law 710 = .ok (.aload_n 1, 1) := by decide +kernel
theorem dL_law_711 : decode cL_law 711 = .ok (.aload_n 0, 1) := by decide +kernel
theorem dL_law_712 : decode cL_law 712 = .ok (.iload_n 3, 1) := by decide +kernel
theorem dL_law_713 : decode cL_law 713 = .ok (.iconst 1, 1) := by decide +kernel
theorem dL_law_714 : decode cL_law 714 = .ok (.iadd, 1) := by decide +kernel
theorem dL_law_715 : decode cL_law 715 = .ok (.iaload, 1) := by decide +kernel
theorem dL_law_716 : decode cL_law 716 = .ok (.aload_n 0, 1) := by decide +kernel
theorem dL_law_717 : decode cL_law 717 = .ok (.iload_n 3, 1) := by decide +kernel
theorem dL_law_718 : decode cL_law 718 = .ok (.iconst 2, 1) := by decide +kernel
theorem dL_law_719 : decode cL_law 719 = .ok (.iadd, 1) := by decide +kernel
theorem dL_law_720 : decode cL_law 720 = .ok (.iaload, 1) := by decide +kernel
theorem dL_law_721 : decode cL_law 721 = .ok (.aload_n 0, 1) := by decide +kernel
theorem dL_law_722 : decode cL_law 722 = .ok (.iload_n 3, 1) := by decide +kernel
theorem dL_law_723 : decode cL_law 723 = .ok (.iconst 3, 1) := by decide +kernel
theorem dL_law_724 : decode cL_law 724 = .ok (.iadd, 1) := by decide +kernel
theorem dL_law_725 : decode cL_law 725 = .ok (.iaload, 1) := by decide +kernel
theorem dL_law_726 : decode cL_law 726 = .ok (.aload_n 0, 1) := by decide +kernel
theorem dL_law_727 : decode cL_law 727 = .ok (.iload_n 3, 1) := by decide +kernel
theorem dL_law_728 : decode cL_law 728 = .ok (.iconst 4, 1) := by decide +kernel
theorem dL_law_729 : decode cL_law 729 = .ok (.iadd, 1) := by decide +kernel
theorem dL_law_730 : decode cL_law 730 = .ok (.iaload, 1) := by decide +kernel
theorem dL_law_731 : decode cL_law 731 = .ok (.i2l, 1) := by decide +kernel
theorem dL_law_732 : decode cL_law 732 = .ok (.bipush 32, 2) := by decide +kernel
theorem dL_law_734 : decode cL_law 734 = .ok (.lshl, 1) := by decide +kernel
theorem dL_law_735 : decode cL_law 735 = .ok (.aload_n 0, 1) := by decide +kernel
theorem dL_law_736 : decode cL_law 736 = .ok (.iload_n 3, 1) := by decide +kernel
theorem dL_law_737 : decode cL_law 737 = .ok (.iconst 5, 1) := by decide +kernel
theorem dL_law_738 : decode cL_law 738 = .ok (.iadd, 1) := by decide +kernel
theorem dL_law_739 : decode cL_law 739 = .ok (.iaload, 1) := by decide +kernel
theorem dL_law_740 : decode cL_law 740 = .ok (.i2l, 1) := by decide +kernel
theorem dL_law_741 : decode cL_law 741 = .ok (.ldc2_w 67, 3) := by decide +kernel
theorem dL_law_744 : decode cL_law 744 = .ok (.land, 1) := by decide +kernel
theorem dL_law_745 : decode cL_law 745 = .ok (.lor, 1) := by decide +kernel
theorem dL_law_746 : decode cL_law 746 = .ok (.aload_n 0, 1) := by decide +kernel
theorem dL_law_747 : decode cL_law 747 = .ok (.iload_n 3, 1) := by decide +kernel
theorem dL_law_748 : decode cL_law 748 = .ok (.bipush 6, 2) := by decide +kernel
theorem dL_law_750 : decode cL_law 750 = .ok (.iadd, 1) := by decide +kernel
theorem dL_law_751 : decode cL_law 751 = .ok (.iaload, 1) := by decide +kernel
theorem dL_law_752 : decode cL_law 752 = .ok (.invokevirtual 74, 3) := by decide +kernel
theorem dL_law_755 : decode cL_law 755 = .ok (.aload_n 2, 1) := by decide +kernel
theorem dL_law_756 : decode cL_law 756 = .ok (.aload_n 0, 1) := by decide +kernel
theorem dL_law_757 : decode cL_law 757 = .ok (.iload_n 3, 1) := by decide +kernel
theorem dL_law_758 : decode cL_law 758 = .ok (.iconst 1, 1) := by decide +kernel
theorem dL_law_759 : decode cL_law 759 = .ok (.iadd, 1) := by decide +kernel
theorem dL_law_760 : decode cL_law 760 = .ok (.iaload, 1) := by decide +kernel
theorem dL_law_761 : decode cL_law 761 = .ok (.aload_n 0, 1) := by decide +kernel
theorem dL_law_762 : decode cL_law 762 = .ok (.iload_n 3, 1) := by decide +kernel
theorem dL_law_763 : decode cL_law 763 = .ok (.iconst 2, 1) := by decide +kernel
theorem dL_law_764 : decode cL_law 764 = .ok (.iadd, 1) := by decide +kernel
theorem dL_law_765 : decode cL_law 765 = .ok (.iaload, 1) := by decide +kernel
theorem dL_law_766 : decode cL_law 766 = .ok (.aload_n 0, 1) := by decide +kernel
theorem dL_law_767 : decode cL_law 767 = .ok (.iload_n 3, 1) := by decide +kernel
theorem dL_law_768 : decode cL_law 768 = .ok (.iconst 3, 1) := by decide +kernel
theorem dL_law_769 : decode cL_law 769 = .ok (.iadd, 1) := by decide +kernel
theorem dL_law_770 : decode cL_law 770 = .ok (.iaload, 1) := by decide +kernel
theorem dL_law_771 : decode cL_law 771 = .ok (.aload_n 0, 1) := by decide +kernel
theorem dL_law_772 : decode cL_law 772 = .ok (.iload_n 3, 1) := by decide +kernel
theorem dL_law_773 : decode cL_law 773 = .ok (.iconst 4, 1) := by decide +kernel
theorem dL_law_774 : decode cL_law 774 = .ok (.iadd, 1) := by decide +kernel
theorem dL_law_775 : decode cL_law 775 = .ok (.iaload, 1) := by decide +kernel
theorem dL_law_776 : decode cL_law 776 = .ok (.i2l, 1) := by decide +kernel
theorem dL_law_777 : decode cL_law 777 = .ok (.bipush 32, 2) := by decide +kernel
theorem dL_law_779 : decode cL_law 779 = .ok (.lshl, 1) := by decide +kernel
theorem dL_law_780 : decode cL_law 780 = .ok (.aload_n 0, 1) := by decide +kernel
theorem dL_law_781 : decode cL_law 781 = .ok (.iload_n 3, 1) := by decide +kernel
theorem dL_law_782 : decode cL_law 782 = .ok (.iconst 5, 1) := by decide +kernel
theorem dL_law_783 : decode cL_law 783 = .ok (.iadd, 1) := by decide +kernel
theorem dL_law_784 : decode cL_law 784 = .ok (.iaload, 1) := by decide +kernel
theorem dL_law_785 : decode cL_law 785 = .ok (.i2l, 1) := by decide +kernel
theorem dL_law_786 : decode cL_law 786 = .ok (.ldc2_w 67, 3) := by decide +kernel
theorem dL_law_789 : decode cL_law 789 = .ok (.land, 1) := by decide +kernel
theorem dL_law_790 : decode cL_law 790 = .ok (.lor, 1) := by decide +kernel
theorem dL_law_791 : decode cL_law 791 = .ok (.aload_n 0, 1) := by decide +kernel
theorem dL_law_792 : decode cL_law 792 = .ok (.iload_n 3, 1) := by decide +kernel
theorem dL_law_793 : decode cL_law 793 = .ok (.bipush 6, 2) := by decide +kernel
theorem dL_law_795 : decode cL_law 795 = .ok (.iadd, 1) := by decide +kernel
theorem dL_law_796 : decode cL_law 796 = .ok (.iaload, 1) := by decide +kernel
theorem dL_law_797 : decode cL_law 797 = .ok (.invokevirtual 78, 3) := by decide +kernel
theorem dL_law_800 : decode cL_law 800 = .ok (.if_icmp .eq 363, 3) := by decide +kernel
theorem dL_law_803 : decode cL_law 803 = .ok (.iconst 0, 1) := by decide +kernel
theorem dL_law_804 : decode cL_law 804 = .ok (.ireturn, 1) := by decide +kernel
theorem dL_law_805 : decode cL_law 805 = .ok (.aload_n 1, 1) := by decide +kernel
theorem dL_law_806 : decode cL_law 806 = .ok (.aload_n 0, 1) := by decide +kernel
theorem dL_law_807 : decode cL_law 807 = .ok (.iload_n 3, 1) := by decide +kernel
theorem dL_law_808 : decode cL_law 808 = .ok (.iconst 1, 1) := by decide +kernel
theorem dL_law_809 : decode cL_law 809 = .ok (.iadd, 1) := by decide +kernel
theorem dL_law_810 : decode cL_law 810 = .ok (.iaload, 1) := by decide +kernel
theorem dL_law_811 : decode cL_law 811 = .ok (.aload_n 0, 1) := by decide +kernel
theorem dL_law_812 : decode cL_law 812 = .ok (.iload_n 3, 1) := by decide +kernel
theorem dL_law_813 : decode cL_law 813 = .ok (.iconst 2, 1) := by decide +kernel
theorem dL_law_814 : decode cL_law 814 = .ok (.iadd, 1) := by decide +kernel
theorem dL_law_815 : decode cL_law 815 = .ok (.iaload, 1) := by decide +kernel
theorem dL_law_816 : decode cL_law 816 = .ok (.aload_n 0, 1) := by decide +kernel
theorem dL_law_817 : decode cL_law 817 = .ok (.iload_n 3, 1) := by decide +kernel
theorem dL_law_818 : decode cL_law 818 = .ok (.iconst 3, 1) := by decide +kernel
theorem dL_law_819 : decode cL_law 819 = .ok (.iadd, 1) := by decide +kernel
theorem dL_law_820 : decode cL_law 820 = .ok (.iaload, 1) := by decide +kernel
theorem dL_law_821 : decode cL_law 821 = .ok (.aload_n 0, 1) := by decide +kernel
theorem dL_law_822 : decode cL_law 822 = .ok (.iload_n 3, 1) := by decide +kernel
theorem dL_law_823 : decode cL_law 823 = .ok (.iconst 4, 1) := by decide +kernel
theorem dL_law_824 : decode cL_law 824 = .ok (.iadd, 1) := by decide +kernel
theorem dL_law_825 : decode cL_law 825 = .ok (.iaload, 1) := by decide +kernel
theorem dL_law_826 : decode cL_law 826 = .ok (.invokevirtual 79, 3) := by decide +kernel
theorem dL_law_829 : decode cL_law 829 = .ok (.aload_n 2, 1) := by decide +kernel
theorem dL_law_830 : decode cL_law 830 = .ok (.aload_n 0, 1) := by decide +kernel
theorem dL_law_831 : decode cL_law 831 = .ok (.iload_n 3, 1) := by decide +kernel
theorem dL_law_832 : decode cL_law 832 = .ok (.iconst 1, 1) := by decide +kernel
theorem dL_law_833 : decode cL_law 833 = .ok (.iadd, 1) := by decide +kernel
theorem dL_law_834 : decode cL_law 834 = .ok (.iaload, 1) := by decide +kernel
theorem dL_law_835 : decode cL_law 835 = .ok (.aload_n 0, 1) := by decide +kernel
theorem dL_law_836 : decode cL_law 836 = .ok (.iload_n 3, 1) := by decide +kernel
theorem dL_law_837 : decode cL_law 837 = .ok (.iconst 2, 1) := by decide +kernel
theorem dL_law_838 : decode cL_law 838 = .ok (.iadd, 1) := by decide +kernel
theorem dL_law_839 : decode cL_law 839 = .ok (.iaload, 1) := by decide +kernel
theorem dL_law_840 : decode cL_law 840 = .ok (.aload_n 0, 1) := by decide +kernel
theorem dL_law_841 : decode cL_law 841 = .ok (.iload_n 3, 1) := by decide +kernel
theorem dL_law_842 : decode cL_law 842 = .ok (.iconst 3, 1) := by decide +kernel
theorem dL_law_843 : decode cL_law 843 = .ok (.iadd, 1) := by decide +kernel
theorem dL_law_844 : decode cL_law 844 = .ok (.iaload, 1) := by decide +kernel
theorem dL_law_845 : decode cL_law 845 = .ok (.aload_n 0, 1) := by decide +kernel
theorem dL_law_846 : decode cL_law 846 = .ok (.iload_n 3, 1) := by decide +kernel
theorem dL_law_847 : decode cL_law 847 = .ok (.iconst 4, 1) := by decide +kernel
theorem dL_law_848 : decode cL_law 848 = .ok (.iadd, 1) := by decide +kernel
theorem dL_law_849 : decode cL_law 849 = .ok (.iaload, 1) := by decide +kernel
theorem dL_law_850 : decode cL_law 850 = .ok (.invokevirtual 82, 3) := by decide +kernel
theorem dL_law_853 : decode cL_law 853 = .ok (.if_icmp .eq 310, 3) := by decide +kernel
theorem dL_law_856 : decode cL_law 856 = .ok (.iconst 0, 1) := by decide +kernel
theorem dL_law_857 : decode cL_law 857 = .ok (.ireturn, 1) := by decide +kernel
theorem dL_law_858 : decode cL_law 858 = .ok (.aload_n 1, 1) := by decide +kernel
theorem dL_law_859 : decode cL_law 859 = .ok (.aload_n 0, 1) := by decide +kernel
theorem dL_law_860 : decode cL_law 860 = .ok (.iload_n 3, 1) := by decide +kernel
theorem dL_law_861 : decode cL_law 861 = .ok (.iconst 1, 1) := by decide +kernel
theorem dL_law_862 : decode cL_law 862 = .ok (.iadd, 1) := by decide +kernel
theorem dL_law_863 : decode cL_law 863 = .ok (.iaload, 1) := by decide +kernel
theorem dL_law_864 : decode cL_law 864 = .ok (.aload_n 0, 1) := by decide +kernel
theorem dL_law_865 : decode cL_law 865 = .ok (.iload_n 3, 1) := by decide +kernel
theorem dL_law_866 : decode cL_law 866 = .ok (.iconst 2, 1) := by decide +kernel
theorem dL_law_867 : decode cL_law 867 = .ok (.iadd, 1) := by decide +kernel
theorem dL_law_868 : decode cL_law 868 = .ok (.iaload, 1) := by decide +kernel
theorem dL_law_869 : decode cL_law 869 = .ok (.invokevirtual 83, 3) := by decide +kernel
theorem dL_law_872 : decode cL_law 872 = .ok (.aload_n 2, 1) := by decide +kernel
theorem dL_law_873 : decode cL_law 873 = .ok (.aload_n 0, 1) := by decide +kernel
theorem dL_law_874 : decode cL_law 874 = .ok (.iload_n 3, 1) := by decide +kernel
theorem dL_law_875 : decode cL_law 875 = .ok (.iconst 1, 1) := by decide +kernel
theorem dL_law_876 : decode cL_law 876 = .ok (.iadd, 1) := by decide +kernel
theorem dL_law_877 : decode cL_law 877 = .ok (.iaload, 1) := by decide +kernel
theorem dL_law_878 : decode cL_law 878 = .ok (.aload_n 0, 1) := by decide +kernel
theorem dL_law_879 : decode cL_law 879 = .ok (.iload_n 3, 1) := by decide +kernel
theorem dL_law_880 : decode cL_law 880 = .ok (.iconst 2, 1) := by decide +kernel
theorem dL_law_881 : decode cL_law 881 = .ok (.iadd, 1) := by decide +kernel
theorem dL_law_882 : decode cL_law 882 = .ok (.iaload, 1) := by decide +kernel
theorem dL_law_883 : decode cL_law 883 = .ok (.invokevirtual 86, 3) := by decide +kernel
theorem dL_law_886 : decode cL_law 886 = .ok (.if_icmp .eq 277, 3) := by decide +kernel
theorem dL_law_889 : decode cL_law 889 = .ok (.iconst 0, 1) := by decide +kernel
theorem dL_law_890 : decode cL_law 890 = .ok (.ireturn, 1) := by decide +kernel
theorem dL_law_891 : decode cL_law 891 = .ok (.aload_n 1, 1) := by decide +kernel
theorem dL_law_892 : decode cL_law 892 = .ok (.aload_n 0, 1) := by decide +kernel
theorem dL_law_893 : decode cL_law 893 = .ok (.iload_n 3, 1) := by decide +kernel
theorem dL_law_894 : decode cL_law 894 = .ok (.iconst 1, 1) := by decide +kernel
theorem dL_law_895 : decode cL_law 895 = .ok (.iadd, 1) := by decide +kernel
theorem dL_law_896 : decode cL_law 896 = .ok (.iaload, 1) := by decide +kernel
theorem dL_law_897 : decode cL_law 897 = .ok (.aload_n 0, 1) := by decide +kernel
theorem dL_law_898 : decode cL_law 898 = .ok (.iload_n 3, 1) := by decide +kernel
theorem dL_law_899 : decode cL_law 899 = .ok (.iconst 2, 1) := by decide +kernel
theorem dL_law_900 : decode cL_law 900 = .ok (.iadd, 1) := by decide +kernel
theorem dL_law_901 : decode cL_law 901 = .ok (.iaload, 1) := by decide +kernel
theorem dL_law_902 : decode cL_law 902 = .ok (.aload_n 0, 1) := by decide +kernel
theorem dL_law_903 : decode cL_law 903 = .ok (.iload_n 3, 1) := by decide +kernel
theorem dL_law_904 : decode cL_law 904 = .ok (.iconst 3, 1) := by decide +kernel
theorem dL_law_905 : decode cL_law 905 = .ok (.iadd, 1) := by decide +kernel
theorem dL_law_906 : decode cL_law 906 = .ok (.iaload, 1) := by decide +kernel
theorem dL_law_907 : decode cL_law 907 = .ok (.aload_n 0, 1) := by decide +kernel
theorem dL_law_908 : decode cL_law 908 = .ok (.iload_n 3, 1) := by decide +kernel
theorem dL_law_909 : decode cL_law 909 = .ok (.iconst 4, 1) := by decide +kernel
theorem dL_law_910 : decode cL_law 910 = .ok (.iadd, 1) := by decide +kernel
theorem dL_law_911 : decode cL_law 911 = .ok (.iaload, 1) := by decide +kernel
theorem dL_law_912 : decode cL_law 912 = .ok (.invokevirtual 87, 3) := by decide +kernel
theorem dL_law_915 : decode cL_law 915 = .ok (.aload_n 2, 1) := by decide +kernel
theorem dL_law_916 : decode cL_law 916 = .ok (.aload_n 0, 1) := by decide +kernel
theorem dL_law_917 : decode cL_law 917 = .ok (.iload_n 3, 1) := by decide +kernel
theorem dL_law_918 : decode cL_law 918 = .ok (.iconst 1, 1) := by decide +kernel
theorem dL_law_919 : decode cL_law 919 = .ok (.iadd, 1) := by decide +kernel
theorem dL_law_920 : decode cL_law 920 = .ok (.iaload, 1) := by decide +kernel
theorem dL_law_921 : decode cL_law 921 = .ok (.aload_n 0, 1) := by decide +kernel
theorem dL_law_922 : decode cL_law 922 = .ok (.iload_n 3, 1) := by decide +kernel
theorem dL_law_923 : decode cL_law 923 = .ok (.iconst 2, 1) := by decide +kernel
theorem dL_law_924 : decode cL_law 924 = .ok (.iadd, 1) := by decide +kernel
theorem dL_law_925 : decode cL_law 925 = .ok (.iaload, 1) := by decide +kernel
theorem dL_law_926 : decode cL_law 926 = .ok (.aload_n 0, 1) := by decide +kernel
theorem dL_law_927 : decode cL_law 927 = .ok (.iload_n 3, 1) := by decide +kernel
theorem dL_law_928 : decode cL_law 928 = .ok (.iconst 3, 1) := by decide +kernel
theorem dL_law_929 : decode cL_law 929 = .ok (.iadd, 1) := by decide +kernel
theorem dL_law_930 : decode cL_law 930 = .ok (.iaload, 1) := by decide +kernel
theorem dL_law_931 : decode cL_law 931 = .ok (.aload_n 0, 1) := by decide +kernel
theorem dL_law_932 : decode cL_law 932 = .ok (.iload_n 3, 1) := by decide +kernel
theorem dL_law_933 : decode cL_law 933 = .ok (.iconst 4, 1) := by decide +kernel
theorem dL_law_934 : decode cL_law 934 = .ok (.iadd, 1) := by decide +kernel
theorem dL_law_935 : decode cL_law 935 = .ok (.iaload, 1) := by decide +kernel
theorem dL_law_936 : decode cL_law 936 = .ok (.invokevirtual 90, 3) := by decide +kernel
theorem dL_law_939 : decode cL_law 939 = .ok (.if_icmp .eq 224, 3) := by decide +kernel
theorem dL_law_942 : decode cL_law 942 = .ok (.iconst 0, 1) := by decide +kernel
theorem dL_law_943 : decode cL_law 943 = .ok (.ireturn, 1) := by decide +kernel
theorem dL_law_944 : decode cL_law 944 = .ok (.aload_n 1, 1) := by decide +kernel
theorem dL_law_945 : decode cL_law 945 = .ok (.aload_n 0, 1) := by decide +kernel
theorem dL_law_946 : decode cL_law 946 = .ok (.iload_n 3, 1) := by decide +kernel
theorem dL_law_947 : decode cL_law 947 = .ok (.iconst 1, 1) := by decide +kernel
theorem dL_law_948 : decode cL_law 948 = .ok (.iadd, 1) := by decide +kernel
theorem dL_law_949 : decode cL_law 949 = .ok (.iaload, 1) := by decide +kernel
theorem dL_law_950 : decode cL_law 950 = .ok (.aload_n 0, 1) := by decide +kernel
theorem dL_law_951 : decode cL_law 951 = .ok (.iload_n 3, 1) := by decide +kernel
theorem dL_law_952 : decode cL_law 952 = .ok (.iconst 2, 1) := by decide +kernel
theorem dL_law_953 : decode cL_law 953 = .ok (.iadd, 1) := by decide +kernel
theorem dL_law_954 : decode cL_law 954 = .ok (.iaload, 1) := by decide +kernel
theorem dL_law_955 : decode cL_law 955 = .ok (.invokevirtual 91, 3) := by decide +kernel
theorem dL_law_958 : decode cL_law 958 = .ok (.aload_n 2, 1) := by decide +kernel
theorem dL_law_959 : decode cL_law 959 = .ok (.aload_n 0, 1) := by decide +kernel
theorem dL_law_960 : decode cL_law 960 = .ok (.iload_n 3, 1) := by decide +kernel
theorem dL_law_961 : decode cL_law 961 = .ok (.iconst 1, 1) := by decide +kernel
theorem dL_law_962 : decode cL_law 962 = .ok (.iadd, 1) := by decide +kernel
theorem dL_law_963 : decode cL_law 963 = .ok (.iaload, 1) := by decide +kernel
theorem dL_law_964 : decode cL_law 964 = .ok (.aload_n 0, 1) := by decide +kernel
theorem dL_law_965 : decode cL_law 965 = .ok (.iload_n 3, 1) := by decide +kernel
theorem dL_law_966 : decode cL_law 966 = .ok (.iconst 2, 1) := by decide +kernel
theorem dL_law_967 : decode cL_law 967 = .ok (.iadd, 1) := by decide +kernel
theorem dL_law_968 : decode cL_law 968 = .ok (.iaload, 1) := by decide +kernel
theorem dL_law_969 : decode cL_law 969 = .ok (.invokevirtual 94, 3) := by decide +kernel
theorem dL_law_972 : decode cL_law 972 = .ok (.if_icmp .eq 191, 3) := by decide +kernel
theorem dL_law_975 : decode cL_law 975 = .ok (.iconst 0, 1) := by decide +kernel
theorem dL_law_976 : decode cL_law 976 = .ok (.ireturn, 1) := by decide +kernel
theorem dL_law_977 : decode cL_law 977 = .ok (.aload_n 1, 1) := by decide +kernel
theorem dL_law_978 : decode cL_law 978 = .ok (.aload_n 0, 1) := by decide +kernel
theorem dL_law_979 : decode cL_law 979 = .ok (.iload_n 3, 1) := by decide +kernel
theorem dL_law_980 : decode cL_law 980 = .ok (.iconst 1, 1) := by decide +kernel
theorem dL_law_981 : decode cL_law 981 = .ok (.iadd, 1) := by decide +kernel
theorem dL_law_982 : decode cL_law 982 = .ok (.iaload, 1) := by decide +kernel
theorem dL_law_983 : decode cL_law 983 = .ok (.aload_n 0, 1) := by decide +kernel
theorem dL_law_984 : decode cL_law 984 = .ok (.iload_n 3, 1) := by decide +kernel
theorem dL_law_985 : decode cL_law 985 = .ok (.iconst 2, 1) := by decide +kernel
theorem dL_law_986 : decode cL_law 986 = .ok (.iadd, 1) := by decide +kernel
theorem dL_law_987 : decode cL_law 987 = .ok (.iaload, 1) := by decide +kernel
theorem dL_law_988 : decode cL_law 988 = .ok (.aload_n 0, 1) := by decide +kernel
theorem dL_law_989 : decode cL_law 989 = .ok (.iload_n 3, 1) := by decide +kernel
theorem dL_law_990 : decode cL_law 990 = .ok (.iconst 3, 1) := by decide +kernel
theorem dL_law_991 : decode cL_law 991 = .ok (.iadd, 1) := by decide +kernel
theorem dL_law_992 : decode cL_law 992 = .ok (.iaload, 1) := by decide +kernel
theorem dL_law_993 : decode cL_law 993 = .ok (.invokevirtual 95, 3) := by decide +kernel
theorem dL_law_996 : decode cL_law 996 = .ok (.aload_n 2, 1) := by decide +kernel
theorem dL_law_997 : decode cL_law 997 = .ok (.aload_n 0, 1) := by decide +kernel
theorem dL_law_998 : decode cL_law 998 = .ok (.iload_n 3, 1) := by decide +kernel
theorem dL_law_999 : decode cL_law 999 = .ok (.iconst 1, 1) := by decide +kernel
theorem dL_law_1000 : decode cL_law 1000 = .ok (.iadd, 1) := by decide +kernel
theorem dL_law_1001 : decode cL_law 1001 = .ok (.iaload, 1) := by decide +kernel
theorem dL_law_1002 : decode cL_law 1002 = .ok (.aload_n 0, 1) := by decide +kernel
theorem dL_law_1003 : decode cL_law 1003 = .ok (.iload_n 3, 1) := by decide +kernel
theorem dL_law_1004 : decode cL_law 1004 = .ok (.iconst 2, 1) := by decide +kernel
theorem dL_law_1005 : decode cL_law 1005 = .ok (.iadd, 1) := by decide +kernel
theorem dL_law_1006 : decode cL_law 1006 = .ok (.iaload, 1) := by decide +kernel
theorem dL_law_1007 : decode cL_law 1007 = .ok (.aload_n 0, 1) := by decide +kernel
theorem dL_law_1008 : decode cL_law 1008 = .ok (.iload_n 3, 1) := by decide +kernel
theorem dL_law_1009 : decode cL_law 1009 = .ok (.iconst 3, 1) := by decide +kernel
theorem dL_law_1010 : decode cL_law 1010 = .ok (.iadd, 1) := by decide +kernel
theorem dL_law_1011 : decode cL_law 1011 = .ok (.iaload, 1) := by decide +kernel
theorem dL_law_1012 : decode cL_law 1012 = .ok (.invokevirtual 99, 3) := by decide +kernel
theorem dL_law_1015 : decode cL_law 1015 = .ok (.lcmp, 1) := by decide +kernel
theorem dL_law_1016 : decode cL_law 1016 = .ok (.ifCond .eq 147, 3) := by decide +kernel
theorem dL_law_1019 : decode cL_law 1019 = .ok (.iconst 0, 1) := by decide +kernel
theorem dL_law_1020 : decode cL_law 1020 = .ok (.ireturn, 1) := by decide +kernel
theorem dL_law_1021 : decode cL_law 1021 = .ok (.aload_n 1, 1) := by decide +kernel
theorem dL_law_1022 : decode cL_law 1022 = .ok (.aload_n 0, 1) := by decide +kernel
theorem dL_law_1023 : decode cL_law 1023 = .ok (.iload_n 3, 1) := by decide +kernel
theorem dL_law_1024 : decode cL_law 1024 = .ok (.iconst 1, 1) := by decide +kernel
theorem dL_law_1025 : decode cL_law 1025 = .ok (.iadd, 1) := by decide +kernel
theorem dL_law_1026 : decode cL_law 1026 = .ok (.iaload, 1) := by decide +kernel
theorem dL_law_1027 : decode cL_law 1027 = .ok (.aload_n 0, 1) := by decide +kernel
theorem dL_law_1028 : decode cL_law 1028 = .ok (.iload_n 3, 1) := by decide +kernel
theorem dL_law_1029 : decode cL_law 1029 = .ok (.iconst 2, 1) := by decide +kernel
theorem dL_law_1030 : decode cL_law 1030 = .ok (.iadd, 1) := by decide +kernel
theorem dL_law_1031 : decode cL_law 1031 = .ok (.iaload, 1) := by decide +kernel
theorem dL_law_1032 : decode cL_law 1032 = .ok (.invokevirtual 100, 3) := by decide +kernel
theorem dL_law_1035 : decode cL_law 1035 = .ok (.aload_n 2, 1) := by decide +kernel
theorem dL_law_1036 : decode cL_law 1036 = .ok (.aload_n 0, 1) := by decide +kernel
theorem dL_law_1037 : decode cL_law 1037 = .ok (.iload_n 3, 1) := by decide +kernel
theorem dL_law_1038 : decode cL_law 1038 = .ok (.iconst 1, 1) := by decide +kernel
theorem dL_law_1039 : decode cL_law 1039 = .ok (.iadd, 1) := by decide +kernel
theorem dL_law_1040 : decode cL_law 1040 = .ok (.iaload, 1) := by decide +kernel
theorem dL_law_1041 : decode cL_law 1041 = .ok (.aload_n 0, 1) := by decide +kernel
theorem dL_law_1042 : decode cL_law 1042 = .ok (.iload_n 3, 1) := by decide +kernel
theorem dL_law_1043 : decode cL_law 1043 = .ok (.iconst 2, 1) := by decide +kernel
theorem dL_law_1044 : decode cL_law 1044 = .ok (.iadd, 1) := by decide +kernel
theorem dL_law_1045 : decode cL_law 1045 = .ok (.iaload, 1) := by decide +kernel
theorem dL_law_1046 : decode cL_law 1046 = .ok (.invokevirtual 103, 3) := by decide +kernel
theorem dL_law_1049 : decode cL_law 1049 = .ok (.if_icmp .eq 114, 3) := by decide +kernel
theorem dL_law_1052 : decode cL_law 1052 = .ok (.iconst 0, 1) := by decide +kernel
theorem dL_law_1053 : decode cL_law 1053 = .ok (.ireturn, 1) := by decide +kernel
theorem dL_law_1054 : decode cL_law 1054 = .ok (.aload_n 1, 1) := by decide +kernel
theorem dL_law_1055 : decode cL_law 1055 = .ok (.aload_n 0, 1) := by decide +kernel
theorem dL_law_1056 : decode cL_law 1056 = .ok (.iload_n 3, 1) := by decide +kernel
theorem dL_law_1057 : decode cL_law 1057 = .ok (.iconst 1, 1) := by decide +kernel
theorem dL_law_1058 : decode cL_law 1058 = .ok (.iadd, 1) := by decide +kernel
theorem dL_law_1059 : decode cL_law 1059 = .ok (.iaload, 1) := by decide +kernel
theorem dL_law_1060 : decode cL_law 1060 = .ok (.aload_n 0, 1) := by decide +kernel
theorem dL_law_1061 : decode cL_law 1061 = .ok (.iload_n 3, 1) := by decide +kernel
theorem dL_law_1062 : decode cL_law 1062 = .ok (.iconst 2, 1) := by decide +kernel
theorem dL_law_1063 : decode cL_law 1063 = .ok (.iadd, 1) := by decide +kernel
theorem dL_law_1064 : decode cL_law 1064 = .ok (.iaload, 1) := by decide +kernel
theorem dL_law_1065 : decode cL_law 1065 = .ok (.aload_n 0, 1) := by decide +kernel
theorem dL_law_1066 : decode cL_law 1066 = .ok (.iload_n 3, 1) := by decide +kernel
theorem dL_law_1067 : decode cL_law 1067 = .ok (.iconst 3, 1) := by decide +kernel
theorem dL_law_1068 : decode cL_law 1068 = .ok (.iadd, 1) := by decide +kernel
theorem dL_law_1069 : decode cL_law 1069 = .ok (.iaload, 1) := by decide +kernel
theorem dL_law_1070 : decode cL_law 1070 = .ok (.invokevirtual 104, 3) := by decide +kernel
theorem dL_law_1073 : decode cL_law 1073 = .ok (.aload_n 2, 1) := by decide +kernel
theorem dL_law_1074 : decode cL_law 1074 = .ok (.aload_n 0, 1) := by decide +kernel
theorem dL_law_1075 : decode cL_law 1075 = .ok (.iload_n 3, 1) := by decide +kernel
theorem dL_law_1076 : decode cL_law 1076 = .ok (.iconst 1, 1) := by decide +kernel
theorem dL_law_1077 : decode cL_law 1077 = .ok (.iadd, 1) := by decide +kernel
theorem dL_law_1078 : decode cL_law 1078 = .ok (.iaload, 1) := by decide +kernel
theorem dL_law_1079 : decode cL_law 1079 = .ok (.aload_n 0, 1) := by decide +kernel
theorem dL_law_1080 : decode cL_law 1080 = .ok (.iload_n 3, 1) := by decide +kernel
theorem dL_law_1081 : decode cL_law 1081 = .ok (.iconst 2, 1) := by decide +kernel
theorem dL_law_1082 : decode cL_law 1082 = .ok (.iadd, 1) := by decide +kernel
theorem dL_law_1083 : decode cL_law 1083 = .ok (.iaload, 1) := by decide +kernel
theorem dL_law_1084 : decode cL_law 1084 = .ok (.aload_n 0, 1) := by decide +kernel
theorem dL_law_1085 : decode cL_law 1085 = .ok (.iload_n 3, 1) := by decide +kernel
theorem dL_law_1086 : decode cL_law 1086 = .ok (.iconst 3, 1) := by decide +kernel
theorem dL_law_1087 : decode cL_law 1087 = .ok (.iadd, 1) := by decide +kernel
theorem dL_law_1088 : decode cL_law 1088 = .ok (.iaload, 1) := by decide +kernel
theorem dL_law_1089 : decode cL_law 1089 = .ok (.invokevirtual 107, 3) := by decide +kernel
theorem dL_law_1092 : decode cL_law 1092 = .ok (.if_icmp .eq 71, 3) := by decide +kernel
theorem dL_law_1095 : decode cL_law 1095 = .ok (.iconst 0, 1) := by decide +kernel
theorem dL_law_1096 : decode cL_law 1096 = .ok (.ireturn, 1) := by decide +kernel
theorem dL_law_1097 : decode cL_law 1097 = .ok (.aload_n 1, 1) := by decide +kernel
theorem dL_law_1098 : decode cL_law 1098 = .ok (.aload_n 0, 1) := by decide +kernel
theorem dL_law_1099 : decode cL_law 1099 = .ok (.iload_n 3, 1) := by decide +kernel
theorem dL_law_1100 : decode cL_law 1100 = .ok (.iconst 1, 1) := by decide +kernel
theorem dL_law_1101 : decode cL_law 1101 = .ok (.iadd, 1) := by decide +kernel
theorem dL_law_1102 : decode cL_law 1102 = .ok (.iaload, 1) := by decide +kernel
theorem dL_law_1103 : decode cL_law 1103 = .ok (.aload_n 0, 1) := by decide +kernel
theorem dL_law_1104 : decode cL_law 1104 = .ok (.iload_n 3, 1) := by decide +kernel
theorem dL_law_1105 : decode cL_law 1105 = .ok (.iconst 2, 1) := by decide +kernel
theorem dL_law_1106 : decode cL_law 1106 = .ok (.iadd, 1) := by decide +kernel
theorem dL_law_1107 : decode cL_law 1107 = .ok (.iaload, 1) := by decide +kernel
theorem dL_law_1108 : decode cL_law 1108 = .ok (.aload_n 0, 1) := by decide +kernel
theorem dL_law_1109 : decode cL_law 1109 = .ok (.iload_n 3, 1) := by decide +kernel
theorem dL_law_1110 : decode cL_law 1110 = .ok (.iconst 3, 1) := by decide +kernel
theorem dL_law_1111 : decode cL_law 1111 = .ok (.iadd, 1) := by decide +kernel
theorem dL_law_1112 : decode cL_law 1112 = .ok (.iaload, 1) := by decide +kernel
theorem dL_law_1113 : decode cL_law 1113 = .ok (.invokevirtual 108, 3) := by decide +kernel
theorem dL_law_1116 : decode cL_law 1116 = .ok (.aload_n 2, 1) := by decide +kernel
theorem dL_law_1117 : decode cL_law 1117 = .ok (.aload_n 0, 1) := by decide +kernel
theorem dL_law_1118 : decode cL_law 1118 = .ok (.iload_n 3, 1) := by decide +kernel
theorem dL_law_1119 : decode cL_law 1119 = .ok (.iconst 1, 1) := by decide +kernel
theorem dL_law_1120 : decode cL_law 1120 = .ok (.iadd, 1) := by decide +kernel
theorem dL_law_1121 : decode cL_law 1121 = .ok (.iaload, 1) := by decide +kernel
theorem dL_law_1122 : decode cL_law 1122 = .ok (.aload_n 0, 1) := by decide +kernel
theorem dL_law_1123 : decode cL_law 1123 = .ok (.iload_n 3, 1) := by decide +kernel
theorem dL_law_1124 : decode cL_law 1124 = .ok (.iconst 2, 1) := by decide +kernel
theorem dL_law_1125 : decode cL_law 1125 = .ok (.iadd, 1) := by decide +kernel
theorem dL_law_1126 : decode cL_law 1126 = .ok (.iaload, 1) := by decide +kernel
theorem dL_law_1127 : decode cL_law 1127 = .ok (.aload_n 0, 1) := by decide +kernel
theorem dL_law_1128 : decode cL_law 1128 = .ok (.iload_n 3, 1) := by decide +kernel
theorem dL_law_1129 : decode cL_law 1129 = .ok (.iconst 3, 1) := by decide +kernel
theorem dL_law_1130 : decode cL_law 1130 = .ok (.iadd, 1) := by decide +kernel
theorem dL_law_1131 : decode cL_law 1131 = .ok (.iaload, 1) := by decide +kernel
theorem dL_law_1132 : decode cL_law 1132 = .ok (.invokevirtual 111, 3) := by decide +kernel
theorem dL_law_1135 : decode cL_law 1135 = .ok (.if_icmp .eq 28, 3) := by decide +kernel
theorem dL_law_1138 : decode cL_law 1138 = .ok (.iconst 0, 1) := by decide +kernel
theorem dL_law_1139 : decode cL_law 1139 = .ok (.ireturn, 1) := by decide +kernel
theorem dL_law_1140 : decode cL_law 1140 = .ok (.aload_n 1, 1) := by decide +kernel
theorem dL_law_1141 : decode cL_law 1141 = .ok (.aload_n 0, 1) := by decide +kernel
theorem dL_law_1142 : decode cL_law 1142 = .ok (.iload_n 3, 1) := by decide +kernel
theorem dL_law_1143 : decode cL_law 1143 = .ok (.iconst 1, 1) := by decide +kernel
theorem dL_law_1144 : decode cL_law 1144 = .ok (.iadd, 1) := by decide +kernel
theorem dL_law_1145 : decode cL_law 1145 = .ok (.iaload, 1) := by decide +kernel
theorem dL_law_1146 : decode cL_law 1146 = .ok (.invokevirtual 112, 3) := by decide +kernel
theorem dL_law_1149 : decode cL_law 1149 = .ok (.aload_n 2, 1) := by decide +kernel
theorem dL_law_1150 : decode cL_law 1150 = .ok (.aload_n 0, 1) := by decide +kernel
theorem dL_law_1151 : decode cL_law 1151 = .ok (.iload_n 3, 1) := by decide +kernel
theorem dL_law_1152 : decode cL_law 1152 = .ok (.iconst 1, 1) := by decide +kernel
theorem dL_law_1153 : decode cL_law 1153 = .ok (.iadd, 1) := by decide +kernel
theorem dL_law_1154 : decode cL_law 1154 = .ok (.iaload, 1) := by decide +kernel
theorem dL_law_1155 : decode cL_law 1155 = .ok (.invokevirtual 115, 3) := by decide +kernel
theorem dL_law_1158 : decode cL_law 1158 = .ok (.if_icmp .eq 5, 3) := by decide +kernel
theorem dL_law_1161 : decode cL_law 1161 = .ok (.iconst 0, 1) := by decide +kernel
theorem dL_law_1162 : decode cL_law 1162 = .ok (.ireturn, 1) := by decide +kernel
theorem dL_law_1163 : decode cL_law 1163 = .ok (.iinc 3 7, 3) := by decide +kernel
theorem dL_law_1166 : decode cL_law 1166 = .ok (.goto (-1148), 3) := by decide +kernel
theorem dL_law_1169 : decode cL_law 1169 = .ok (.iconst 1, 1) := by decide +kernel
theorem dL_law_1170 : decode cL_law 1170 = .ok (.ireturn, 1) := by decide +kernel
