def J_262 : mjI := (⟨"OwnerHeapModel", "next", "()V"⟩, 12, prog_14_method_6_code, 3, none, 0, false)
theorem Ja_262 : mjMt 262 = some J_262 := by rfl
theorem D_262_0 : decode J_262.2.2.1 0 = .ok (.aload_n 0, 1) := dzq_42 (by decide +kernel)
theorem D_262_1 : decode J_262.2.2.1 1 = .ok (.aload_n 0, 1) := dzq_42 (by decide +kernel)
theorem D_262_2 : decode J_262.2.2.1 2 = .ok (.getfield 307, 3) := dzq_180 (by decide +kernel)
theorem D_262_5 : decode J_262.2.2.1 5 = .ok (.putfield 310, 3) := dzq_181 (by decide +kernel)
theorem D_262_8 : decode J_262.2.2.1 8 = .ok (.iconst 1, 1) := dzq_4 (by decide +kernel)
theorem D_262_9 : decode J_262.2.2.1 9 = .ok (.istore_n 1, 1) := dzq_60 (by decide +kernel)
theorem D_262_10 : decode J_262.2.2.1 10 = .ok (.iload_n 1, 1) := dzq_27 (by decide +kernel)
theorem D_262_11 : decode J_262.2.2.1 11 = .ok (.ifCond .eq 110, 3) := dzq_153 (by decide +kernel)
theorem D_262_14 : decode J_262.2.2.1 14 = .ok (.aload_n 0, 1) := dzq_42 (by decide +kernel)
theorem D_262_15 : decode J_262.2.2.1 15 = .ok (.aload_n 0, 1) := dzq_42 (by decide +kernel)
theorem D_262_16 : decode J_262.2.2.1 16 = .ok (.getfield 310, 3) := dzq_180 (by decide +kernel)
theorem D_262_19 : decode J_262.2.2.1 19 = .ok (.invokevirtual 313, 3) := dzq_182 (by decide +kernel)
theorem D_262_22 : decode J_262.2.2.1 22 = .ok (.istore_n 2, 1) := dzq_61 (by decide +kernel)
theorem D_262_23 : decode J_262.2.2.1 23 = .ok (.aload_n 0, 1) := dzq_42 (by decide +kernel)
theorem D_262_24 : decode J_262.2.2.1 24 = .ok (.getfield 310, 3) := dzq_180 (by decide +kernel)
theorem D_262_27 : decode J_262.2.2.1 27 = .ok (.aload_n 0, 1) := dzq_42 (by decide +kernel)
theorem D_262_28 : decode J_262.2.2.1 28 = .ok (.getfield 304, 3) := dzq_180 (by decide +kernel)
theorem D_262_31 : decode J_262.2.2.1 31 = .ok (.if_icmp .ge 25, 3) := dzq_162 (by decide +kernel)
theorem D_262_34 : decode J_262.2.2.1 34 = .ok (.iload_n 2, 1) := dzq_28 (by decide +kernel)
theorem D_262_35 : decode J_262.2.2.1 35 = .ok (.bipush 10, 2) := dzq_16 (by decide +kernel)
theorem D_262_37 : decode J_262.2.2.1 37 = .ok (.if_icmp .eq 15, 3) := dzq_159 (by decide +kernel)
theorem D_262_40 : decode J_262.2.2.1 40 = .ok (.iload_n 2, 1) := dzq_28 (by decide +kernel)
theorem D_262_41 : decode J_262.2.2.1 41 = .ok (.bipush 32, 2) := dzq_16 (by decide +kernel)
theorem D_262_43 : decode J_262.2.2.1 43 = .ok (.if_icmp .eq 9, 3) := dzq_159 (by decide +kernel)
theorem D_262_46 : decode J_262.2.2.1 46 = .ok (.iload_n 2, 1) := dzq_28 (by decide +kernel)
theorem D_262_47 : decode J_262.2.2.1 47 = .ok (.bipush 35, 2) := dzq_16 (by decide +kernel)
theorem D_262_49 : decode J_262.2.2.1 49 = .ok (.if_icmp .ne 7, 3) := dzq_160 (by decide +kernel)
theorem D_262_52 : decode J_262.2.2.1 52 = .ok (.iconst 1, 1) := dzq_4 (by decide +kernel)
theorem D_262_53 : decode J_262.2.2.1 53 = .ok (.goto 4, 3) := dzq_167 (by decide +kernel)
theorem D_262_56 : decode J_262.2.2.1 56 = .ok (.iconst 0, 1) := dzq_3 (by decide +kernel)
theorem D_262_57 : decode J_262.2.2.1 57 = .ok (.istore_n 1, 1) := dzq_60 (by decide +kernel)
theorem D_262_58 : decode J_262.2.2.1 58 = .ok (.iload_n 1, 1) := dzq_27 (by decide +kernel)
theorem D_262_59 : decode J_262.2.2.1 59 = .ok (.ifCond .ne 6, 3) := dzq_154 (by decide +kernel)
theorem D_262_62 : decode J_262.2.2.1 62 = .ok (.goto (-52), 3) := dzq_167 (by decide +kernel)
theorem D_262_65 : decode J_262.2.2.1 65 = .ok (.iload_n 2, 1) := dzq_28 (by decide +kernel)
theorem D_262_66 : decode J_262.2.2.1 66 = .ok (.bipush 35, 2) := dzq_16 (by decide +kernel)
theorem D_262_68 : decode J_262.2.2.1 68 = .ok (.if_icmp .ne 40, 3) := dzq_160 (by decide +kernel)
theorem D_262_71 : decode J_262.2.2.1 71 = .ok (.aload_n 0, 1) := dzq_42 (by decide +kernel)
theorem D_262_72 : decode J_262.2.2.1 72 = .ok (.getfield 310, 3) := dzq_180 (by decide +kernel)
theorem D_262_75 : decode J_262.2.2.1 75 = .ok (.aload_n 0, 1) := dzq_42 (by decide +kernel)
theorem D_262_76 : decode J_262.2.2.1 76 = .ok (.getfield 304, 3) := dzq_180 (by decide +kernel)
theorem D_262_79 : decode J_262.2.2.1 79 = .ok (.if_icmp .ge 39, 3) := dzq_162 (by decide +kernel)
theorem D_262_82 : decode J_262.2.2.1 82 = .ok (.aload_n 0, 1) := dzq_42 (by decide +kernel)
theorem D_262_83 : decode J_262.2.2.1 83 = .ok (.aload_n 0, 1) := dzq_42 (by decide +kernel)
theorem D_262_84 : decode J_262.2.2.1 84 = .ok (.getfield 310, 3) := dzq_180 (by decide +kernel)
theorem D_262_87 : decode J_262.2.2.1 87 = .ok (.invokevirtual 313, 3) := dzq_182 (by decide +kernel)
theorem D_262_90 : decode J_262.2.2.1 90 = .ok (.bipush 10, 2) := dzq_16 (by decide +kernel)
theorem D_262_92 : decode J_262.2.2.1 92 = .ok (.if_icmp .eq 26, 3) := dzq_159 (by decide +kernel)
theorem D_262_95 : decode J_262.2.2.1 95 = .ok (.aload_n 0, 1) := dzq_42 (by decide +kernel)
theorem D_262_96 : decode J_262.2.2.1 96 = .ok (.dup, 1) := dzq_89 (by decide +kernel)
theorem D_262_97 : decode J_262.2.2.1 97 = .ok (.getfield 310, 3) := dzq_180 (by decide +kernel)
theorem D_262_100 : decode J_262.2.2.1 100 = .ok (.iconst 1, 1) := dzq_4 (by decide +kernel)
theorem D_262_101 : decode J_262.2.2.1 101 = .ok (.iadd, 1) := dzq_96 (by decide +kernel)
theorem D_262_102 : decode J_262.2.2.1 102 = .ok (.putfield 310, 3) := dzq_181 (by decide +kernel)
theorem D_262_105 : decode J_262.2.2.1 105 = .ok (.goto (-34), 3) := dzq_167 (by decide +kernel)
theorem D_262_108 : decode J_262.2.2.1 108 = .ok (.aload_n 0, 1) := dzq_42 (by decide +kernel)
theorem D_262_109 : decode J_262.2.2.1 109 = .ok (.dup, 1) := dzq_89 (by decide +kernel)
theorem D_262_110 : decode J_262.2.2.1 110 = .ok (.getfield 310, 3) := dzq_180 (by decide +kernel)
theorem D_262_113 : decode J_262.2.2.1 113 = .ok (.iconst 1, 1) := dzq_4 (by decide +kernel)
theorem D_262_114 : decode J_262.2.2.1 114 = .ok (.iadd, 1) := dzq_96 (by decide +kernel)
theorem D_262_115 : decode J_262.2.2.1 115 = .ok (.putfield 310, 3) := dzq_181 (by decide +kernel)
theorem D_262_118 : decode J_262.2.2.1 118 = .ok (.goto (-108), 3) := dzq_167 (by decide +kernel)
theorem D_262_121 : decode J_262.2.2.1 121 = .ok (.aload_n 0, 1) := dzq_42 (by decide +kernel)
theorem D_262_122 : decode J_262.2.2.1 122 = .ok (.aload_n 0, 1) := dzq_42 (by decide +kernel)
theorem D_262_123 : decode J_262.2.2.1 123 = .ok (.getfield 310, 3) := dzq_180 (by decide +kernel)
theorem D_262_126 : decode J_262.2.2.1 126 = .ok (.putfield 307, 3) := dzq_181 (by decide +kernel)
theorem D_262_129 : decode J_262.2.2.1 129 = .ok (.aload_n 0, 1) := dzq_42 (by decide +kernel)
theorem D_262_130 : decode J_262.2.2.1 130 = .ok (.getfield 310, 3) := dzq_180 (by decide +kernel)
theorem D_262_133 : decode J_262.2.2.1 133 = .ok (.aload_n 0, 1) := dzq_42 (by decide +kernel)
theorem D_262_134 : decode J_262.2.2.1 134 = .ok (.getfield 304, 3) := dzq_180 (by decide +kernel)
theorem D_262_137 : decode J_262.2.2.1 137 = .ok (.if_icmp .lt 25, 3) := dzq_161 (by decide +kernel)
theorem D_262_140 : decode J_262.2.2.1 140 = .ok (.aload_n 0, 1) := dzq_42 (by decide +kernel)
theorem D_262_141 : decode J_262.2.2.1 141 = .ok (.iconst 0, 1) := dzq_3 (by decide +kernel)
theorem D_262_142 : decode J_262.2.2.1 142 = .ok (.putfield 316, 3) := dzq_181 (by decide +kernel)
theorem D_262_145 : decode J_262.2.2.1 145 = .ok (.aload_n 0, 1) := dzq_42 (by decide +kernel)
theorem D_262_146 : decode J_262.2.2.1 146 = .ok (.aload_n 0, 1) := dzq_42 (by decide +kernel)
theorem D_262_147 : decode J_262.2.2.1 147 = .ok (.getfield 304, 3) := dzq_180 (by decide +kernel)
theorem D_262_150 : decode J_262.2.2.1 150 = .ok (.putfield 310, 3) := dzq_181 (by decide +kernel)
theorem D_262_153 : decode J_262.2.2.1 153 = .ok (.aload_n 0, 1) := dzq_42 (by decide +kernel)
theorem D_262_154 : decode J_262.2.2.1 154 = .ok (.aload_n 0, 1) := dzq_42 (by decide +kernel)
theorem D_262_155 : decode J_262.2.2.1 155 = .ok (.getfield 304, 3) := dzq_180 (by decide +kernel)
theorem D_262_158 : decode J_262.2.2.1 158 = .ok (.putfield 307, 3) := dzq_181 (by decide +kernel)
theorem D_262_161 : decode J_262.2.2.1 161 = .ok (.return_, 1) := dzq_177 (by decide +kernel)
theorem D_262_162 : decode J_262.2.2.1 162 = .ok (.aload_n 0, 1) := dzq_42 (by decide +kernel)
theorem D_262_163 : decode J_262.2.2.1 163 = .ok (.aload_n 0, 1) := dzq_42 (by decide +kernel)
theorem D_262_164 : decode J_262.2.2.1 164 = .ok (.getfield 310, 3) := dzq_180 (by decide +kernel)
theorem D_262_167 : decode J_262.2.2.1 167 = .ok (.invokevirtual 313, 3) := dzq_182 (by decide +kernel)
theorem D_262_170 : decode J_262.2.2.1 170 = .ok (.istore_n 2, 1) := dzq_61 (by decide +kernel)
theorem D_262_171 : decode J_262.2.2.1 171 = .ok (.iload_n 2, 1) := dzq_28 (by decide +kernel)
theorem D_262_172 : decode J_262.2.2.1 172 = .ok (.bipush 48, 2) := dzq_16 (by decide +kernel)
theorem D_262_174 : decode J_262.2.2.1 174 = .ok (.if_icmp .lt 117, 3) := dzq_161 (by decide +kernel)
theorem D_262_177 : decode J_262.2.2.1 177 = .ok (.iload_n 2, 1) := dzq_28 (by decide +kernel)
theorem D_262_178 : decode J_262.2.2.1 178 = .ok (.bipush 57, 2) := dzq_16 (by decide +kernel)
theorem D_262_180 : decode J_262.2.2.1 180 = .ok (.if_icmp .gt 111, 3) := dzq_163 (by decide +kernel)
theorem D_262_183 : decode J_262.2.2.1 183 = .ok (.aload_n 0, 1) := dzq_42 (by decide +kernel)
theorem D_262_184 : decode J_262.2.2.1 184 = .ok (.iconst 0, 1) := dzq_3 (by decide +kernel)
theorem D_262_185 : decode J_262.2.2.1 185 = .ok (.putfield 319, 3) := dzq_181 (by decide +kernel)
theorem D_262_188 : decode J_262.2.2.1 188 = .ok (.aload_n 0, 1) := dzq_42 (by decide +kernel)
theorem D_262_189 : decode J_262.2.2.1 189 = .ok (.aload_n 0, 1) := dzq_42 (by decide +kernel)
theorem D_262_190 : decode J_262.2.2.1 190 = .ok (.getfield 307, 3) := dzq_180 (by decide +kernel)
theorem D_262_193 : decode J_262.2.2.1 193 = .ok (.invokevirtual 313, 3) := dzq_182 (by decide +kernel)
theorem D_262_196 : decode J_262.2.2.1 196 = .ok (.bipush 48, 2) := dzq_16 (by decide +kernel)
theorem D_262_198 : decode J_262.2.2.1 198 = .ok (.if_icmp .lt 66, 3) := dzq_161 (by decide +kernel)
theorem D_262_201 : decode J_262.2.2.1 201 = .ok (.aload_n 0, 1) := dzq_42 (by decide +kernel)
theorem D_262_202 : decode J_262.2.2.1 202 = .ok (.aload_n 0, 1) := dzq_42 (by decide +kernel)
theorem D_262_203 : decode J_262.2.2.1 203 = .ok (.getfield 307, 3) := dzq_180 (by decide +kernel)
theorem D_262_206 : decode J_262.2.2.1 206 = .ok (.invokevirtual 313, 3) := dzq_182 (by decide +kernel)
theorem D_262_209 : decode J_262.2.2.1 209 = .ok (.bipush 57, 2) := dzq_16 (by decide +kernel)
theorem D_262_211 : decode J_262.2.2.1 211 = .ok (.if_icmp .gt 53, 3) := dzq_163 (by decide +kernel)
theorem D_262_214 : decode J_262.2.2.1 214 = .ok (.aload_n 0, 1) := dzq_42 (by decide +kernel)
theorem D_262_215 : decode J_262.2.2.1 215 = .ok (.getfield 307, 3) := dzq_180 (by decide +kernel)
theorem D_262_218 : decode J_262.2.2.1 218 = .ok (.aload_n 0, 1) := dzq_42 (by decide +kernel)
theorem D_262_219 : decode J_262.2.2.1 219 = .ok (.getfield 310, 3) := dzq_180 (by decide +kernel)
theorem D_262_222 : decode J_262.2.2.1 222 = .ok (.isub, 1) := dzq_100 (by decide +kernel)
theorem D_262_223 : decode J_262.2.2.1 223 = .ok (.bipush 9, 2) := dzq_16 (by decide +kernel)
theorem D_262_225 : decode J_262.2.2.1 225 = .ok (.if_icmp .ge 26, 3) := dzq_162 (by decide +kernel)
theorem D_262_228 : decode J_262.2.2.1 228 = .ok (.aload_n 0, 1) := dzq_42 (by decide +kernel)
theorem D_262_229 : decode J_262.2.2.1 229 = .ok (.bipush 10, 2) := dzq_16 (by decide +kernel)
theorem D_262_231 : decode J_262.2.2.1 231 = .ok (.aload_n 0, 1) := dzq_42 (by decide +kernel)
theorem D_262_232 : decode J_262.2.2.1 232 = .ok (.getfield 319, 3) := dzq_180 (by decide +kernel)
theorem D_262_235 : decode J_262.2.2.1 235 = .ok (.imul, 1) := dzq_104 (by decide +kernel)
theorem D_262_236 : decode J_262.2.2.1 236 = .ok (.aload_n 0, 1) := dzq_42 (by decide +kernel)
theorem D_262_237 : decode J_262.2.2.1 237 = .ok (.aload_n 0, 1) := dzq_42 (by decide +kernel)
theorem D_262_238 : decode J_262.2.2.1 238 = .ok (.getfield 307, 3) := dzq_180 (by decide +kernel)
theorem D_262_241 : decode J_262.2.2.1 241 = .ok (.invokevirtual 313, 3) := dzq_182 (by decide +kernel)
theorem D_262_244 : decode J_262.2.2.1 244 = .ok (.iadd, 1) := dzq_96 (by decide +kernel)
theorem D_262_245 : decode J_262.2.2.1 245 = .ok (.bipush 48, 2) := dzq_16 (by decide +kernel)
theorem D_262_247 : decode J_262.2.2.1 247 = .ok (.isub, 1) := dzq_100 (by decide +kernel)
theorem D_262_248 : decode J_262.2.2.1 248 = .ok (.putfield 319, 3) := dzq_181 (by decide +kernel)
theorem D_262_251 : decode J_262.2.2.1 251 = .ok (.aload_n 0, 1) := dzq_42 (by decide +kernel)
theorem D_262_252 : decode J_262.2.2.1 252 = .ok (.dup, 1) := dzq_89 (by decide +kernel)
theorem D_262_253 : decode J_262.2.2.1 253 = .ok (.getfield 307, 3) := dzq_180 (by decide +kernel)
theorem D_262_256 : decode J_262.2.2.1 256 = .ok (.iconst 1, 1) := dzq_4 (by decide +kernel)
theorem D_262_257 : decode J_262.2.2.1 257 = .ok (.iadd, 1) := dzq_96 (by decide +kernel)
theorem D_262_258 : decode J_262.2.2.1 258 = .ok (.putfield 307, 3) := dzq_181 (by decide +kernel)
theorem D_262_261 : decode J_262.2.2.1 261 = .ok (.goto (-73), 3) := dzq_167 (by decide +kernel)
theorem D_262_264 : decode J_262.2.2.1 264 = .ok (.aload_n 0, 1) := dzq_42 (by decide +kernel)
theorem D_262_265 : decode J_262.2.2.1 265 = .ok (.aload_n 0, 1) := dzq_42 (by decide +kernel)
theorem D_262_266 : decode J_262.2.2.1 266 = .ok (.getfield 307, 3) := dzq_180 (by decide +kernel)
theorem D_262_269 : decode J_262.2.2.1 269 = .ok (.aload_n 0, 1) := dzq_42 (by decide +kernel)
theorem D_262_270 : decode J_262.2.2.1 270 = .ok (.getfield 310, 3) := dzq_180 (by decide +kernel)
theorem D_262_273 : decode J_262.2.2.1 273 = .ok (.isub, 1) := dzq_100 (by decide +kernel)
theorem D_262_274 : decode J_262.2.2.1 274 = .ok (.bipush 9, 2) := dzq_16 (by decide +kernel)
theorem D_262_276 : decode J_262.2.2.1 276 = .ok (.if_icmp .le 8, 3) := dzq_164 (by decide +kernel)
theorem D_262_279 : decode J_262.2.2.1 279 = .ok (.bipush 6, 2) := dzq_16 (by decide +kernel)
theorem D_262_281 : decode J_262.2.2.1 281 = .ok (.goto 4, 3) := dzq_167 (by decide +kernel)
theorem D_262_284 : decode J_262.2.2.1 284 = .ok (.iconst 3, 1) := dzq_6 (by decide +kernel)
theorem D_262_285 : decode J_262.2.2.1 285 = .ok (.putfield 316, 3) := dzq_181 (by decide +kernel)
theorem D_262_288 : decode J_262.2.2.1 288 = .ok (.goto 135, 3) := dzq_167 (by decide +kernel)
theorem D_262_291 : decode J_262.2.2.1 291 = .ok (.iload_n 2, 1) := dzq_28 (by decide +kernel)
theorem D_262_292 : decode J_262.2.2.1 292 = .ok (.invokestatic 294, 3) := dzq_184 (by decide +kernel)
theorem D_262_295 : decode J_262.2.2.1 295 = .ok (.ifCond .le 123, 3) := dzq_158 (by decide +kernel)
theorem D_262_298 : decode J_262.2.2.1 298 = .ok (.aload_n 0, 1) := dzq_42 (by decide +kernel)
theorem D_262_299 : decode J_262.2.2.1 299 = .ok (.lconst 0, 1) := by decide +kernel
theorem D_262_300 : decode J_262.2.2.1 300 = .ok (.putfield 322, 3) := dzq_181 (by decide +kernel)
theorem D_262_303 : decode J_262.2.2.1 303 = .ok (.aload_n 0, 1) := dzq_42 (by decide +kernel)
theorem D_262_304 : decode J_262.2.2.1 304 = .ok (.aload_n 0, 1) := dzq_42 (by decide +kernel)
theorem D_262_305 : decode J_262.2.2.1 305 = .ok (.getfield 307, 3) := dzq_180 (by decide +kernel)
theorem D_262_308 : decode J_262.2.2.1 308 = .ok (.invokevirtual 313, 3) := dzq_182 (by decide +kernel)
theorem D_262_311 : decode J_262.2.2.1 311 = .ok (.invokestatic 294, 3) := dzq_184 (by decide +kernel)
theorem D_262_314 : decode J_262.2.2.1 314 = .ok (.ifCond .le 55, 3) := dzq_158 (by decide +kernel)
theorem D_262_317 : decode J_262.2.2.1 317 = .ok (.aload_n 0, 1) := dzq_42 (by decide +kernel)
theorem D_262_318 : decode J_262.2.2.1 318 = .ok (.getfield 307, 3) := dzq_180 (by decide +kernel)
theorem D_262_321 : decode J_262.2.2.1 321 = .ok (.aload_n 0, 1) := dzq_42 (by decide +kernel)
theorem D_262_322 : decode J_262.2.2.1 322 = .ok (.getfield 310, 3) := dzq_180 (by decide +kernel)
theorem D_262_325 : decode J_262.2.2.1 325 = .ok (.isub, 1) := dzq_100 (by decide +kernel)
theorem D_262_326 : decode J_262.2.2.1 326 = .ok (.bipush 10, 2) := dzq_16 (by decide +kernel)
theorem D_262_328 : decode J_262.2.2.1 328 = .ok (.if_icmp .ge 28, 3) := dzq_162 (by decide +kernel)
theorem D_262_331 : decode J_262.2.2.1 331 = .ok (.aload_n 0, 1) := dzq_42 (by decide +kernel)
theorem D_262_332 : decode J_262.2.2.1 332 = .ok (.ldc2_w 298, 3) := by decide +kernel
theorem D_262_335 : decode J_262.2.2.1 335 = .ok (.aload_n 0, 1) := dzq_42 (by decide +kernel)
theorem D_262_336 : decode J_262.2.2.1 336 = .ok (.getfield 322, 3) := dzq_180 (by decide +kernel)
theorem D_262_339 : decode J_262.2.2.1 339 = .ok (.lmul, 1) := by decide +kernel
theorem D_262_340 : decode J_262.2.2.1 340 = .ok (.aload_n 0, 1) := dzq_42 (by decide +kernel)
theorem D_262_341 : decode J_262.2.2.1 341 = .ok (.aload_n 0, 1) := dzq_42 (by decide +kernel)
theorem D_262_342 : decode J_262.2.2.1 342 = .ok (.getfield 307, 3) := dzq_180 (by decide +kernel)
theorem D_262_345 : decode J_262.2.2.1 345 = .ok (.invokevirtual 313, 3) := dzq_182 (by decide +kernel)
theorem D_262_348 : decode J_262.2.2.1 348 = .ok (.invokestatic 294, 3) := dzq_184 (by decide +kernel)
theorem D_262_351 : decode J_262.2.2.1 351 = .ok (.i2l, 1) := by decide +kernel
theorem D_262_352 : decode J_262.2.2.1 352 = .ok (.ladd, 1) := by decide +kernel
theorem D_262_353 : decode J_262.2.2.1 353 = .ok (.putfield 322, 3) := dzq_181 (by decide +kernel)
theorem D_262_356 : decode J_262.2.2.1 356 = .ok (.aload_n 0, 1) := dzq_42 (by decide +kernel)
theorem D_262_357 : decode J_262.2.2.1 357 = .ok (.dup, 1) := dzq_89 (by decide +kernel)
theorem D_262_358 : decode J_262.2.2.1 358 = .ok (.getfield 307, 3) := dzq_180 (by decide +kernel)
theorem D_262_361 : decode J_262.2.2.1 361 = .ok (.iconst 1, 1) := dzq_4 (by decide +kernel)
theorem D_262_362 : decode J_262.2.2.1 362 = .ok (.iadd, 1) := dzq_96 (by decide +kernel)
theorem D_262_363 : decode J_262.2.2.1 363 = .ok (.putfield 307, 3) := dzq_181 (by decide +kernel)
theorem D_262_366 : decode J_262.2.2.1 366 = .ok (.goto (-63), 3) := dzq_167 (by decide +kernel)
theorem D_262_369 : decode J_262.2.2.1 369 = .ok (.aload_n 0, 1) := dzq_42 (by decide +kernel)
theorem D_262_370 : decode J_262.2.2.1 370 = .ok (.aload_n 0, 1) := dzq_42 (by decide +kernel)
theorem D_262_371 : decode J_262.2.2.1 371 = .ok (.getfield 307, 3) := dzq_180 (by decide +kernel)
theorem D_262_374 : decode J_262.2.2.1 374 = .ok (.aload_n 0, 1) := dzq_42 (by decide +kernel)
theorem D_262_375 : decode J_262.2.2.1 375 = .ok (.getfield 310, 3) := dzq_180 (by decide +kernel)
theorem D_262_378 : decode J_262.2.2.1 378 = .ok (.isub, 1) := dzq_100 (by decide +kernel)
theorem D_262_379 : decode J_262.2.2.1 379 = .ok (.bipush 10, 2) := dzq_16 (by decide +kernel)
theorem D_262_381 : decode J_262.2.2.1 381 = .ok (.if_icmp .le 8, 3) := dzq_164 (by decide +kernel)
theorem D_262_384 : decode J_262.2.2.1 384 = .ok (.bipush 6, 2) := dzq_16 (by decide +kernel)
theorem D_262_386 : decode J_262.2.2.1 386 = .ok (.goto 14, 3) := dzq_167 (by decide +kernel)
theorem D_262_389 : decode J_262.2.2.1 389 = .ok (.iload_n 2, 1) := dzq_28 (by decide +kernel)
theorem D_262_390 : decode J_262.2.2.1 390 = .ok (.bipush 90, 2) := dzq_16 (by decide +kernel)
theorem D_262_392 : decode J_262.2.2.1 392 = .ok (.if_icmp .gt 7, 3) := dzq_163 (by decide +kernel)
theorem D_262_395 : decode J_262.2.2.1 395 = .ok (.iconst 1, 1) := dzq_4 (by decide +kernel)
theorem D_262_396 : decode J_262.2.2.1 396 = .ok (.goto 4, 3) := dzq_167 (by decide +kernel)
theorem D_262_399 : decode J_262.2.2.1 399 = .ok (.iconst 2, 1) := dzq_5 (by decide +kernel)
theorem D_262_400 : decode J_262.2.2.1 400 = .ok (.putfield 316, 3) := dzq_181 (by decide +kernel)
theorem D_262_403 : decode J_262.2.2.1 403 = .ok (.aload_n 0, 1) := dzq_42 (by decide +kernel)
theorem D_262_404 : decode J_262.2.2.1 404 = .ok (.getfield 316, 3) := dzq_180 (by decide +kernel)
theorem D_262_407 : decode J_262.2.2.1 407 = .ok (.iconst 2, 1) := dzq_5 (by decide +kernel)
theorem D_262_408 : decode J_262.2.2.1 408 = .ok (.if_icmp .ne 15, 3) := dzq_160 (by decide +kernel)
theorem D_262_411 : decode J_262.2.2.1 411 = .ok (.aload_n 0, 1) := dzq_42 (by decide +kernel)
theorem D_262_412 : decode J_262.2.2.1 412 = .ok (.invokevirtual 326, 3) := dzq_182 (by decide +kernel)
theorem D_262_415 : decode J_262.2.2.1 415 = .ok (.goto 8, 3) := dzq_167 (by decide +kernel)
theorem D_262_418 : decode J_262.2.2.1 418 = .ok (.aload_n 0, 1) := dzq_42 (by decide +kernel)
theorem D_262_419 : decode J_262.2.2.1 419 = .ok (.iload_n 2, 1) := dzq_28 (by decide +kernel)
theorem D_262_420 : decode J_262.2.2.1 420 = .ok (.invokevirtual 329, 3) := dzq_182 (by decide +kernel)
theorem D_262_423 : decode J_262.2.2.1 423 = .ok (.return_, 1) := dzq_177 (by decide +kernel)
def P_262_400 (X : mjX) (d C S kc ks : Nat) (k : Nat → Nat → Int32 → mjH → mjU) : Prop := ∀ (l0 : Nat) (s0 : Nat) (s1 : Int32) (hp : mjH) (q : Option Value × mjH), k l0 s0 s1 hp = some q → mjG X d C S J_262 (mjEq q) 400 [some (.ref l0), none, none] [.int s1, .ref s0] hp kc ks
def P_262_356 (X : mjX) (d C S kc ks : Nat) (k : Nat → Int32 → mjH → mjU) : Prop := ∀ (l0 : Nat) (l2 : Int32) (hp : mjH) (q : Option Value × mjH), k l0 l2 hp = some q → mjG X d C S J_262 (mjEq q) 356 [some (.ref l0), none, some (.int l2)] [] hp kc ks
def P_262_303 (X : mjX) (d C S kc ks : Nat) (k : Nat → Int32 → mjH → mjU) : Prop := ∀ (l0 : Nat) (l2 : Int32) (hp : mjH) (q : Option Value × mjH), k l0 l2 hp = some q → mjG X d C S J_262 (mjEq q) 303 [some (.ref l0), none, some (.int l2)] [] hp kc ks
def P_262_291 (X : mjX) (d C S kc ks : Nat) (k : Nat → Int32 → mjH → mjU) : Prop := ∀ (l0 : Nat) (l2 : Int32) (hp : mjH) (q : Option Value × mjH), k l0 l2 hp = some q → mjG X d C S J_262 (mjEq q) 291 [some (.ref l0), none, some (.int l2)] [] hp kc ks
def P_262_285 (X : mjX) (d C S kc ks : Nat) (k : Nat → Int32 → mjH → mjU) : Prop := ∀ (s0 : Nat) (s1 : Int32) (hp : mjH) (q : Option Value × mjH), k s0 s1 hp = some q → mjG X d C S J_262 (mjEq q) 285 [none, none, none] [.int s1, .ref s0] hp kc ks
def P_262_264 (X : mjX) (d C S kc ks : Nat) (k : Nat → mjH → mjU) : Prop := ∀ (l0 : Nat) (hp : mjH) (q : Option Value × mjH), k l0 hp = some q → mjG X d C S J_262 (mjEq q) 264 [some (.ref l0), none, none] [] hp kc ks
def P_262_251 (X : mjX) (d C S kc ks : Nat) (k : Nat → mjH → mjU) : Prop := ∀ (l0 : Nat) (hp : mjH) (q : Option Value × mjH), k l0 hp = some q → mjG X d C S J_262 (mjEq q) 251 [some (.ref l0), none, none] [] hp kc ks
def P_262_188 (X : mjX) (d C S kc ks : Nat) (k : Nat → mjH → mjU) : Prop := ∀ (l0 : Nat) (hp : mjH) (q : Option Value × mjH), k l0 hp = some q → mjG X d C S J_262 (mjEq q) 188 [some (.ref l0), none, none] [] hp kc ks
def P_262_118 (X : mjX) (d C S kc ks : Nat) (k : Nat → Int32 → mjH → mjU) : Prop := ∀ (l0 : Nat) (l1 : Int32) (hp : mjH) (q : Option Value × mjH), k l0 l1 hp = some q → mjG X d C S J_262 (mjEq q) 118 [some (.ref l0), some (.int l1), none] [] hp kc ks
def P_262_71 (X : mjX) (d C S kc ks : Nat) (k : Nat → Int32 → mjH → mjU) : Prop := ∀ (l0 : Nat) (l1 : Int32) (hp : mjH) (q : Option Value × mjH), k l0 l1 hp = some q → mjG X d C S J_262 (mjEq q) 71 [some (.ref l0), some (.int l1), none] [] hp kc ks
def P_262_57 (X : mjX) (d C S kc ks : Nat) (k : Nat → Int32 → Int32 → mjH → mjU) : Prop := ∀ (l0 : Nat) (l2 : Int32) (s0 : Int32) (hp : mjH) (q : Option Value × mjH), k l0 l2 s0 hp = some q → mjG X d C S J_262 (mjEq q) 57 [some (.ref l0), none, some (.int l2)] [.int s0] hp kc ks
def P_262_56 (X : mjX) (d C S kc ks : Nat) (k : Nat → Int32 → mjH → mjU) : Prop := ∀ (l0 : Nat) (l2 : Int32) (hp : mjH) (q : Option Value × mjH), k l0 l2 hp = some q → mjG X d C S J_262 (mjEq q) 56 [some (.ref l0), none, some (.int l2)] [] hp kc ks
def P_262_52 (X : mjX) (d C S kc ks : Nat) (k : Nat → Int32 → mjH → mjU) : Prop := ∀ (l0 : Nat) (l2 : Int32) (hp : mjH) (q : Option Value × mjH), k l0 l2 hp = some q → mjG X d C S J_262 (mjEq q) 52 [some (.ref l0), none, some (.int l2)] [] hp kc ks
def P_262_10 (X : mjX) (d C S kc ks : Nat) (k : Nat → Int32 → mjH → mjU) : Prop := ∀ (l0 : Nat) (l1 : Int32) (hp : mjH) (q : Option Value × mjH), k l0 l1 hp = some q → mjG X d C S J_262 (mjEq q) 10 [some (.ref l0), some (.int l1), none] [] hp kc ks
def P_262_0 (X : mjX) (d C S kc ks : Nat) (k : Nat → mjH → mjU) : Prop := ∀ (l0 : Nat) (hp : mjH) (q : Option Value × mjH), k l0 hp = some q → mjG X d C S J_262 (mjEq q) 0 [some (.ref l0), none, none] [] hp kc ks
noncomputable def b_262_400 (R : mjR) (l0 : Nat) (s0 : Nat) (s1 : Int32) (hp : mjH) : mjU := pI hp s0 12 3 s1 (fun hp1 => gI hp1 l0 12 3 (fun v2 => (if v2 = (2 : Int32) then rV hp1 l0 12 (bN (R 264 [.ref l0] hp1) (fun  hp3 => some (none, hp3))) else some (none, hp1))))
theorem t_262_400 {X : mjX} {d C S kc ks : Nat} {R : mjR} (hR : mjC R d) (h1 : kc ≤ C) (h2 : ks ≤ S) : P_262_400 X (d + 1) C S kc ks (b_262_400 R) := by
  intro l0 s0 s1 hp q h
  unfold b_262_400 at h
  refine mjq_pI D_262_400 fr_12_316 rfl rfl h (fun hp1 h => ?_)
  refine mjr_aload_n (x := l0) D_262_403 rfl ?_
  refine mjq_gI D_262_404 fr_12_316 h (fun v2 h => ?_)
  refine mjq_ic (v := (2 : Int32)) D_262_407 rfl ?_
  refine mjq_icmp_ne (tgt := 423) D_262_408 rfl h (fun h => ?_) (fun h => ?_)
  · exact mjq_nret D_262_423 rfl h1 h2 h
  · refine mjr_aload_n (x := l0) D_262_411 rfl ?_
    refine mjq_vN (As := []) (rest := []) D_262_412 mr_12_326 V_264 rfl rfl rfl hR (Nat.le_refl _) h1 h2 h (fun  hp3 h => ?_)
    refine mjr_goto (tgt := 423) D_262_415 rfl ?_
    exact mjq_nret D_262_423 rfl h1 h2 h
noncomputable def b_262_356 (R : mjR) (k303 : Nat → Int32 → mjH → mjU) (l0 : Nat) (l2 : Int32) (hp : mjH) : mjU := gI hp l0 12 5 (fun v1 => pI hp l0 12 5 (v1 + (1 : Int32)) (fun hp2 => k303 l0 l2 hp2))
theorem t_262_356 {X : mjX} {d C S kc ks : Nat} {R : mjR} (hR : mjC R d) (h1 : kc ≤ C) (h2 : ks ≤ S) {k303 : Nat → Int32 → mjH → mjU} (hk303 : P_262_303 X (d + 1) C S kc ks k303) : P_262_356 X (d + 1) C S kc ks (b_262_356 R k303) := by
  intro l0 l2 hp q h
  unfold b_262_356 at h
  refine mjr_aload_n (x := l0) D_262_356 rfl ?_
  refine mjr_dup D_262_357 rfl ?_
  refine mjq_gI D_262_358 fr_12_307 h (fun v1 h => ?_)
  refine mjq_ic (v := (1 : Int32)) D_262_361 rfl ?_
  refine mjr_iadd D_262_362 ?_
  refine mjq_pI D_262_363 fr_12_307 rfl rfl h (fun hp2 h => ?_)
  refine mjr_goto (tgt := 303) D_262_366 rfl ?_
  exact hk303 _ _ _ _ h
noncomputable def b_262_303 (R : mjR) (k303 : Nat → Int32 → mjH → mjU) (l0 : Nat) (l2 : Int32) (hp : mjH) : mjU := gI hp l0 12 5 (fun v1 => rV hp l0 12 (bI (R 263 [.ref l0, .int v1] hp) (fun v2 hp3 => bI (R 228 [.int v2] hp3) (fun v4 hp5 => (if v4 ≤ 0 then gI hp5 l0 12 5 (fun v6 => gI hp5 l0 12 4 (fun v7 => (if (v6 - v7) ≤ (10 : Int32) then (if (90 : Int32) < l2 then b_262_400 R l0 l0 (2 : Int32) hp5 else b_262_400 R l0 l0 (1 : Int32) hp5) else b_262_400 R l0 l0 (6 : Int32) hp5))) else gI hp5 l0 12 5 (fun v8 => gI hp5 l0 12 4 (fun v9 => (if (10 : Int32) ≤ (v8 - v9) then b_262_356 R k303 l0 l2 hp5 else gL hp5 l0 12 7 (fun v10 => gI hp5 l0 12 5 (fun v11 => rV hp5 l0 12 (bI (R 263 [.ref l0, .int v11] hp5) (fun v12 hp13 => bI (R 228 [.int v12] hp13) (fun v14 hp15 => pL hp15 l0 12 7 (((64 : Int64) * v10) + (v14).toInt64) (fun hp16 => b_262_356 R k303 l0 l2 hp16))))))))))))))
theorem t_262_303 {X : mjX} {d C S kc ks : Nat} {R : mjR} (hR : mjC R d) (h1 : kc ≤ C) (h2 : ks ≤ S) {k303 : Nat → Int32 → mjH → mjU} (hk303 : P_262_303 X (d + 1) C S kc ks k303) : P_262_303 X (d + 1) C S kc ks (b_262_303 R k303) := by
  intro l0 l2 hp q h
  unfold b_262_303 at h
  refine mjr_aload_n (x := l0) D_262_303 rfl ?_
  refine mjr_aload_n (x := l0) D_262_304 rfl ?_
  refine mjq_gI D_262_305 fr_12_307 h (fun v1 h => ?_)
  refine mjq_vI (As := [.int v1]) (rest := []) D_262_308 mr_12_313 V_263 rfl rfl rfl hR (Nat.le_refl _) h1 h2 h (fun v2 hp3 h => ?_)
  refine mjq_scI (As := [.int v2]) (rest := []) D_262_311 mr_12_294 V_228 rfl rfl rfl hR (Nat.le_refl _) h1 h2 h (fun v4 hp5 h => ?_)
  refine mjq_if_le (tgt := 369) D_262_314 rfl h (fun h => ?_) (fun h => ?_)
  · refine mjr_aload_n (x := l0) D_262_369 rfl ?_
    refine mjr_aload_n (x := l0) D_262_370 rfl ?_
    refine mjq_gI D_262_371 fr_12_307 h (fun v6 h => ?_)
    refine mjr_aload_n (x := l0) D_262_374 rfl ?_
    refine mjq_gI D_262_375 fr_12_310 h (fun v7 h => ?_)
    refine mjr_isub D_262_378 ?_
    refine mjq_bi (v := (10 : Int32)) D_262_379 rfl ?_
    refine mjq_icmp_le (tgt := 389) D_262_381 rfl h (fun h => ?_) (fun h => ?_)
    · refine mjr_iload_n (x := l2) D_262_389 rfl ?_
      refine mjq_bi (v := (90 : Int32)) D_262_390 rfl ?_
      refine mjq_icmp_gt (tgt := 399) D_262_392 rfl h (fun h => ?_) (fun h => ?_)
      · refine mjq_ic (v := (2 : Int32)) D_262_399 rfl ?_
        exact mjG.fg (lo' := [some (.ref l0), none, none]) (And.intro rfl True.intro) ((t_262_400 hR h1 h2) _ _ _ _ _ h)
      · refine mjq_ic (v := (1 : Int32)) D_262_395 rfl ?_
        refine mjr_goto (tgt := 400) D_262_396 rfl ?_
        exact mjG.fg (lo' := [some (.ref l0), none, none]) (And.intro rfl True.intro) ((t_262_400 hR h1 h2) _ _ _ _ _ h)
    · refine mjq_bi (v := (6 : Int32)) D_262_384 rfl ?_
      refine mjr_goto (tgt := 400) D_262_386 rfl ?_
      exact mjG.fg (lo' := [some (.ref l0), none, none]) (And.intro rfl True.intro) ((t_262_400 hR h1 h2) _ _ _ _ _ h)
  · refine mjr_aload_n (x := l0) D_262_317 rfl ?_
    refine mjq_gI D_262_318 fr_12_307 h (fun v8 h => ?_)
    refine mjr_aload_n (x := l0) D_262_321 rfl ?_
    refine mjq_gI D_262_322 fr_12_310 h (fun v9 h => ?_)
    refine mjr_isub D_262_325 ?_
    refine mjq_bi (v := (10 : Int32)) D_262_326 rfl ?_
    refine mjq_icmp_ge (tgt := 356) D_262_328 rfl h (fun h => ?_) (fun h => ?_)
    · exact (t_262_356 hR h1 h2 hk303) _ _ _ _ h
    · refine mjr_aload_n (x := l0) D_262_331 rfl ?_
      refine mjr_ldc2 (v := (64 : Int64)) D_262_332 (by decide +kernel) ?_
      refine mjr_aload_n (x := l0) D_262_335 rfl ?_
      refine mjq_gL D_262_336 fr_12_322 h (fun v10 h => ?_)
      refine mjr_lmul D_262_339 ?_
      refine mjr_aload_n (x := l0) D_262_340 rfl ?_
      refine mjr_aload_n (x := l0) D_262_341 rfl ?_
      refine mjq_gI D_262_342 fr_12_307 h (fun v11 h => ?_)
      refine mjq_vI (As := [.int v11]) (rest := [.long ((64 : Int64) * v10), .ref l0]) D_262_345 mr_12_313 V_263 rfl rfl rfl hR (Nat.le_refl _) h1 h2 h (fun v12 hp13 h => ?_)
      refine mjq_scI (As := [.int v12]) (rest := [.long ((64 : Int64) * v10), .ref l0]) D_262_348 mr_12_294 V_228 rfl rfl rfl hR (Nat.le_refl _) h1 h2 h (fun v14 hp15 h => ?_)
      refine mjr_i2l D_262_351 ?_
      refine mjr_ladd D_262_352 ?_
      refine mjq_pL D_262_353 fr_12_322 rfl rfl h (fun hp16 h => ?_)
      exact (t_262_356 hR h1 h2 hk303) _ _ _ _ h
noncomputable def L_262_303 (R : mjR) (n : Nat) : Nat → Int32 → mjH → mjU := Nat.rec (motive := fun _ => Nat → Int32 → mjH → mjU) (fun _ _ _ => none) (fun _ self => b_262_303 R self) n
theorem T_262_303 {X : mjX} {d C S kc ks : Nat} {R : mjR} (hR : mjC R d) (h1 : kc ≤ C) (h2 : ks ≤ S) (n : Nat) : P_262_303 X (d + 1) C S kc ks (L_262_303 R n) := by
  induction n with
  | zero => intro _ _ _ _ h; exact mj_no h
  | succ n ih => exact t_262_303 hR h1 h2 ih
noncomputable def b_262_291 (R : mjR) (l0 : Nat) (l2 : Int32) (hp : mjH) : mjU := bI (R 228 [.int l2] hp) (fun v1 hp2 => (if v1 ≤ 0 then rV hp2 l0 12 (bN (R 265 [.ref l0, .int l2] hp2) (fun  hp3 => some (none, hp3))) else pL hp2 l0 12 7 (0 : Int64) (fun hp4 => L_262_303 R mjN l0 l2 hp4)))
theorem t_262_291 {X : mjX} {d C S kc ks : Nat} {R : mjR} (hR : mjC R d) (h1 : kc ≤ C) (h2 : ks ≤ S) : P_262_291 X (d + 1) C S kc ks (b_262_291 R) := by
  intro l0 l2 hp q h
  unfold b_262_291 at h
  refine mjr_iload_n (x := l2) D_262_291 rfl ?_
  refine mjq_scI (As := [.int l2]) (rest := []) D_262_292 mr_12_294 V_228 rfl rfl rfl hR (Nat.le_refl _) h1 h2 h (fun v1 hp2 h => ?_)
  refine mjq_if_le (tgt := 418) D_262_295 rfl h (fun h => ?_) (fun h => ?_)
  · refine mjr_aload_n (x := l0) D_262_418 rfl ?_
    refine mjr_iload_n (x := l2) D_262_419 rfl ?_
    refine mjq_vN (As := [.int l2]) (rest := []) D_262_420 mr_12_329 V_265 rfl rfl rfl hR (Nat.le_refl _) h1 h2 h (fun  hp3 h => ?_)
    exact mjq_nret D_262_423 rfl h1 h2 h
  · refine mjr_aload_n (x := l0) D_262_298 rfl ?_
    refine mjq_lc (v := (0 : Int64)) D_262_299 rfl ?_
    refine mjq_pL D_262_300 fr_12_322 rfl rfl h (fun hp4 h => ?_)
    exact (T_262_303 hR h1 h2 mjN) _ _ _ _ h
noncomputable def b_262_285 (R : mjR) (s0 : Nat) (s1 : Int32) (hp : mjH) : mjU := pI hp s0 12 3 s1 (fun hp1 => some (none, hp1))
theorem t_262_285 {X : mjX} {d C S kc ks : Nat} {R : mjR} (hR : mjC R d) (h1 : kc ≤ C) (h2 : ks ≤ S) : P_262_285 X (d + 1) C S kc ks (b_262_285 R) := by
  intro s0 s1 hp q h
  unfold b_262_285 at h
  refine mjq_pI D_262_285 fr_12_316 rfl rfl h (fun hp1 h => ?_)
  refine mjr_goto (tgt := 423) D_262_288 rfl ?_
  exact mjq_nret D_262_423 rfl h1 h2 h
noncomputable def b_262_264 (R : mjR) (l0 : Nat) (hp : mjH) : mjU := gI hp l0 12 5 (fun v1 => gI hp l0 12 4 (fun v2 => (if (v1 - v2) ≤ (9 : Int32) then b_262_285 R l0 (3 : Int32) hp else b_262_285 R l0 (6 : Int32) hp)))
theorem t_262_264 {X : mjX} {d C S kc ks : Nat} {R : mjR} (hR : mjC R d) (h1 : kc ≤ C) (h2 : ks ≤ S) : P_262_264 X (d + 1) C S kc ks (b_262_264 R) := by
  intro l0 hp q h
  unfold b_262_264 at h
  refine mjr_aload_n (x := l0) D_262_264 rfl ?_
  refine mjr_aload_n (x := l0) D_262_265 rfl ?_
  refine mjq_gI D_262_266 fr_12_307 h (fun v1 h => ?_)
  refine mjr_aload_n (x := l0) D_262_269 rfl ?_
  refine mjq_gI D_262_270 fr_12_310 h (fun v2 h => ?_)
  refine mjr_isub D_262_273 ?_
  refine mjq_bi (v := (9 : Int32)) D_262_274 rfl ?_
  refine mjq_icmp_le (tgt := 284) D_262_276 rfl h (fun h => ?_) (fun h => ?_)
  · refine mjq_ic (v := (3 : Int32)) D_262_284 rfl ?_
    exact mjG.fg (lo' := [none, none, none]) True.intro ((t_262_285 hR h1 h2) _ _ _ _ h)
  · refine mjq_bi (v := (6 : Int32)) D_262_279 rfl ?_
    refine mjr_goto (tgt := 285) D_262_281 rfl ?_
    exact mjG.fg (lo' := [none, none, none]) True.intro ((t_262_285 hR h1 h2) _ _ _ _ h)
noncomputable def b_262_251 (R : mjR) (k188 : Nat → mjH → mjU) (l0 : Nat) (hp : mjH) : mjU := gI hp l0 12 5 (fun v1 => pI hp l0 12 5 (v1 + (1 : Int32)) (fun hp2 => k188 l0 hp2))
theorem t_262_251 {X : mjX} {d C S kc ks : Nat} {R : mjR} (hR : mjC R d) (h1 : kc ≤ C) (h2 : ks ≤ S) {k188 : Nat → mjH → mjU} (hk188 : P_262_188 X (d + 1) C S kc ks k188) : P_262_251 X (d + 1) C S kc ks (b_262_251 R k188) := by
  intro l0 hp q h
  unfold b_262_251 at h
  refine mjr_aload_n (x := l0) D_262_251 rfl ?_
  refine mjr_dup D_262_252 rfl ?_
  refine mjq_gI D_262_253 fr_12_307 h (fun v1 h => ?_)
  refine mjq_ic (v := (1 : Int32)) D_262_256 rfl ?_
  refine mjr_iadd D_262_257 ?_
  refine mjq_pI D_262_258 fr_12_307 rfl rfl h (fun hp2 h => ?_)
  refine mjr_goto (tgt := 188) D_262_261 rfl ?_
  exact hk188 _ _ _ h
noncomputable def b_262_188 (R : mjR) (k188 : Nat → mjH → mjU) (l0 : Nat) (hp : mjH) : mjU := gI hp l0 12 5 (fun v1 => rV hp l0 12 (bI (R 263 [.ref l0, .int v1] hp) (fun v2 hp3 => (if v2 < (48 : Int32) then b_262_264 R l0 hp3 else gI hp3 l0 12 5 (fun v4 => rV hp3 l0 12 (bI (R 263 [.ref l0, .int v4] hp3) (fun v5 hp6 => (if (57 : Int32) < v5 then b_262_264 R l0 hp6 else gI hp6 l0 12 5 (fun v7 => gI hp6 l0 12 4 (fun v8 => (if (9 : Int32) ≤ (v7 - v8) then b_262_251 R k188 l0 hp6 else gI hp6 l0 12 6 (fun v9 => gI hp6 l0 12 5 (fun v10 => rV hp6 l0 12 (bI (R 263 [.ref l0, .int v10] hp6) (fun v11 hp12 => pI hp12 l0 12 6 ((((10 : Int32) * v9) + v11) - (48 : Int32)) (fun hp13 => b_262_251 R k188 l0 hp13))))))))))))))))
theorem t_262_188 {X : mjX} {d C S kc ks : Nat} {R : mjR} (hR : mjC R d) (h1 : kc ≤ C) (h2 : ks ≤ S) {k188 : Nat → mjH → mjU} (hk188 : P_262_188 X (d + 1) C S kc ks k188) : P_262_188 X (d + 1) C S kc ks (b_262_188 R k188) := by
  intro l0 hp q h
  unfold b_262_188 at h
  refine mjr_aload_n (x := l0) D_262_188 rfl ?_
  refine mjr_aload_n (x := l0) D_262_189 rfl ?_
  refine mjq_gI D_262_190 fr_12_307 h (fun v1 h => ?_)
  refine mjq_vI (As := [.int v1]) (rest := []) D_262_193 mr_12_313 V_263 rfl rfl rfl hR (Nat.le_refl _) h1 h2 h (fun v2 hp3 h => ?_)
  refine mjq_bi (v := (48 : Int32)) D_262_196 rfl ?_
  refine mjq_icmp_lt (tgt := 264) D_262_198 rfl h (fun h => ?_) (fun h => ?_)
  · exact (t_262_264 hR h1 h2) _ _ _ h
  · refine mjr_aload_n (x := l0) D_262_201 rfl ?_
    refine mjr_aload_n (x := l0) D_262_202 rfl ?_
    refine mjq_gI D_262_203 fr_12_307 h (fun v4 h => ?_)
    refine mjq_vI (As := [.int v4]) (rest := []) D_262_206 mr_12_313 V_263 rfl rfl rfl hR (Nat.le_refl _) h1 h2 h (fun v5 hp6 h => ?_)
    refine mjq_bi (v := (57 : Int32)) D_262_209 rfl ?_
    refine mjq_icmp_gt (tgt := 264) D_262_211 rfl h (fun h => ?_) (fun h => ?_)
    · exact (t_262_264 hR h1 h2) _ _ _ h
    · refine mjr_aload_n (x := l0) D_262_214 rfl ?_
      refine mjq_gI D_262_215 fr_12_307 h (fun v7 h => ?_)
      refine mjr_aload_n (x := l0) D_262_218 rfl ?_
      refine mjq_gI D_262_219 fr_12_310 h (fun v8 h => ?_)
      refine mjr_isub D_262_222 ?_
      refine mjq_bi (v := (9 : Int32)) D_262_223 rfl ?_
      refine mjq_icmp_ge (tgt := 251) D_262_225 rfl h (fun h => ?_) (fun h => ?_)
      · exact (t_262_251 hR h1 h2 hk188) _ _ _ h
      · refine mjr_aload_n (x := l0) D_262_228 rfl ?_
        refine mjq_bi (v := (10 : Int32)) D_262_229 rfl ?_
        refine mjr_aload_n (x := l0) D_262_231 rfl ?_
        refine mjq_gI D_262_232 fr_12_319 h (fun v9 h => ?_)
        refine mjr_imul D_262_235 ?_
        refine mjr_aload_n (x := l0) D_262_236 rfl ?_
        refine mjr_aload_n (x := l0) D_262_237 rfl ?_
        refine mjq_gI D_262_238 fr_12_307 h (fun v10 h => ?_)
        refine mjq_vI (As := [.int v10]) (rest := [.int ((10 : Int32) * v9), .ref l0]) D_262_241 mr_12_313 V_263 rfl rfl rfl hR (Nat.le_refl _) h1 h2 h (fun v11 hp12 h => ?_)
        refine mjr_iadd D_262_244 ?_
        refine mjq_bi (v := (48 : Int32)) D_262_245 rfl ?_
        refine mjr_isub D_262_247 ?_
        refine mjq_pI D_262_248 fr_12_319 rfl rfl h (fun hp13 h => ?_)
        exact (t_262_251 hR h1 h2 hk188) _ _ _ h
noncomputable def L_262_188 (R : mjR) (n : Nat) : Nat → mjH → mjU := Nat.rec (motive := fun _ => Nat → mjH → mjU) (fun _ _ => none) (fun _ self => b_262_188 R self) n
theorem T_262_188 {X : mjX} {d C S kc ks : Nat} {R : mjR} (hR : mjC R d) (h1 : kc ≤ C) (h2 : ks ≤ S) (n : Nat) : P_262_188 X (d + 1) C S kc ks (L_262_188 R n) := by
  induction n with
  | zero => intro _ _ _ h; exact mj_no h
  | succ n ih => exact t_262_188 hR h1 h2 ih
noncomputable def b_262_118 (R : mjR) (k10 : Nat → Int32 → mjH → mjU) (l0 : Nat) (l1 : Int32) (hp : mjH) : mjU := k10 l0 l1 hp
theorem t_262_118 {X : mjX} {d C S kc ks : Nat} {R : mjR} (hR : mjC R d) (h1 : kc ≤ C) (h2 : ks ≤ S) {k10 : Nat → Int32 → mjH → mjU} (hk10 : P_262_10 X (d + 1) C S kc ks k10) : P_262_118 X (d + 1) C S kc ks (b_262_118 R k10) := by
  intro l0 l1 hp q h
  unfold b_262_118 at h
  refine mjr_goto (tgt := 10) D_262_118 rfl ?_
  exact hk10 _ _ _ _ h
noncomputable def b_262_71 (R : mjR) (k10 : Nat → Int32 → mjH → mjU) (k71 : Nat → Int32 → mjH → mjU) (l0 : Nat) (l1 : Int32) (hp : mjH) : mjU := gI hp l0 12 4 (fun v1 => gI hp l0 12 2 (fun v2 => (if v2 ≤ v1 then b_262_118 R k10 l0 l1 hp else gI hp l0 12 4 (fun v3 => rV hp l0 12 (bI (R 263 [.ref l0, .int v3] hp) (fun v4 hp5 => (if v4 = (10 : Int32) then b_262_118 R k10 l0 l1 hp5 else gI hp5 l0 12 4 (fun v6 => pI hp5 l0 12 4 (v6 + (1 : Int32)) (fun hp7 => k71 l0 l1 hp7)))))))))
theorem t_262_71 {X : mjX} {d C S kc ks : Nat} {R : mjR} (hR : mjC R d) (h1 : kc ≤ C) (h2 : ks ≤ S) {k10 : Nat → Int32 → mjH → mjU} (hk10 : P_262_10 X (d + 1) C S kc ks k10) {k71 : Nat → Int32 → mjH → mjU} (hk71 : P_262_71 X (d + 1) C S kc ks k71) : P_262_71 X (d + 1) C S kc ks (b_262_71 R k10 k71) := by
  intro l0 l1 hp q h
  unfold b_262_71 at h
  refine mjr_aload_n (x := l0) D_262_71 rfl ?_
  refine mjq_gI D_262_72 fr_12_310 h (fun v1 h => ?_)
  refine mjr_aload_n (x := l0) D_262_75 rfl ?_
  refine mjq_gI D_262_76 fr_12_304 h (fun v2 h => ?_)
  refine mjq_icmp_ge (tgt := 118) D_262_79 rfl h (fun h => ?_) (fun h => ?_)
  · exact (t_262_118 hR h1 h2 hk10) _ _ _ _ h
  · refine mjr_aload_n (x := l0) D_262_82 rfl ?_
    refine mjr_aload_n (x := l0) D_262_83 rfl ?_
    refine mjq_gI D_262_84 fr_12_310 h (fun v3 h => ?_)
    refine mjq_vI (As := [.int v3]) (rest := []) D_262_87 mr_12_313 V_263 rfl rfl rfl hR (Nat.le_refl _) h1 h2 h (fun v4 hp5 h => ?_)
    refine mjq_bi (v := (10 : Int32)) D_262_90 rfl ?_
    refine mjq_icmp_eq (tgt := 118) D_262_92 rfl h (fun h => ?_) (fun h => ?_)
    · exact (t_262_118 hR h1 h2 hk10) _ _ _ _ h
    · refine mjr_aload_n (x := l0) D_262_95 rfl ?_
      refine mjr_dup D_262_96 rfl ?_
      refine mjq_gI D_262_97 fr_12_310 h (fun v6 h => ?_)
      refine mjq_ic (v := (1 : Int32)) D_262_100 rfl ?_
      refine mjr_iadd D_262_101 ?_
      refine mjq_pI D_262_102 fr_12_310 rfl rfl h (fun hp7 h => ?_)
      refine mjr_goto (tgt := 71) D_262_105 rfl ?_
      exact hk71 _ _ _ _ h
noncomputable def L_262_71 (R : mjR) (k10 : Nat → Int32 → mjH → mjU) (n : Nat) : Nat → Int32 → mjH → mjU := Nat.rec (motive := fun _ => Nat → Int32 → mjH → mjU) (fun _ _ _ => none) (fun _ self => b_262_71 R k10 self) n
theorem T_262_71 {X : mjX} {d C S kc ks : Nat} {R : mjR} (hR : mjC R d) (h1 : kc ≤ C) (h2 : ks ≤ S) {k10 : Nat → Int32 → mjH → mjU} (hk10 : P_262_10 X (d + 1) C S kc ks k10) (n : Nat) : P_262_71 X (d + 1) C S kc ks (L_262_71 R k10 n) := by
  induction n with
  | zero => intro _ _ _ _ h; exact mj_no h
  | succ n ih => exact t_262_71 hR h1 h2 hk10 ih
noncomputable def b_262_57 (R : mjR) (k10 : Nat → Int32 → mjH → mjU) (l0 : Nat) (l2 : Int32) (s0 : Int32) (hp : mjH) : mjU := (if s0 = 0 then k10 l0 s0 hp else (if l2 = (35 : Int32) then L_262_71 R k10 mjN l0 s0 hp else gI hp l0 12 4 (fun v1 => pI hp l0 12 4 (v1 + (1 : Int32)) (fun hp2 => b_262_118 R k10 l0 s0 hp2))))
theorem t_262_57 {X : mjX} {d C S kc ks : Nat} {R : mjR} (hR : mjC R d) (h1 : kc ≤ C) (h2 : ks ≤ S) {k10 : Nat → Int32 → mjH → mjU} (hk10 : P_262_10 X (d + 1) C S kc ks k10) : P_262_57 X (d + 1) C S kc ks (b_262_57 R k10) := by
  intro l0 l2 s0 hp q h
  unfold b_262_57 at h
  refine mjq_istore_n (lo' := [some (.ref l0), some (.int s0), some (.int l2)]) D_262_57 (Nat.le_of_ble_eq_true rfl) rfl ?_
  refine mjr_iload_n (x := s0) D_262_58 rfl ?_
  refine mjq_if_ne (tgt := 65) D_262_59 rfl h (fun h => ?_) (fun h => ?_)
  · refine mjr_iload_n (x := l2) D_262_65 rfl ?_
    refine mjq_bi (v := (35 : Int32)) D_262_66 rfl ?_
    refine mjq_icmp_ne (tgt := 108) D_262_68 rfl h (fun h => ?_) (fun h => ?_)
    · refine mjr_aload_n (x := l0) D_262_108 rfl ?_
      refine mjr_dup D_262_109 rfl ?_
      refine mjq_gI D_262_110 fr_12_310 h (fun v1 h => ?_)
      refine mjq_ic (v := (1 : Int32)) D_262_113 rfl ?_
      refine mjr_iadd D_262_114 ?_
      refine mjq_pI D_262_115 fr_12_310 rfl rfl h (fun hp2 h => ?_)
      exact mjG.fg (lo' := [some (.ref l0), some (.int s0), none]) (And.intro rfl (And.intro rfl True.intro)) ((t_262_118 hR h1 h2 hk10) _ _ _ _ h)
    · exact mjG.fg (lo' := [some (.ref l0), some (.int s0), none]) (And.intro rfl (And.intro rfl True.intro)) ((T_262_71 hR h1 h2 hk10 mjN) _ _ _ _ h)
  · refine mjr_goto (tgt := 10) D_262_62 rfl ?_
    exact mjG.fg (lo' := [some (.ref l0), some (.int s0), none]) (And.intro rfl (And.intro rfl True.intro)) (hk10 _ _ _ _ h)
noncomputable def b_262_56 (R : mjR) (k10 : Nat → Int32 → mjH → mjU) (l0 : Nat) (l2 : Int32) (hp : mjH) : mjU := b_262_57 R k10 l0 l2 (0 : Int32) hp
theorem t_262_56 {X : mjX} {d C S kc ks : Nat} {R : mjR} (hR : mjC R d) (h1 : kc ≤ C) (h2 : ks ≤ S) {k10 : Nat → Int32 → mjH → mjU} (hk10 : P_262_10 X (d + 1) C S kc ks k10) : P_262_56 X (d + 1) C S kc ks (b_262_56 R k10) := by
  intro l0 l2 hp q h
  unfold b_262_56 at h
  refine mjq_ic (v := (0 : Int32)) D_262_56 rfl ?_
  exact (t_262_57 hR h1 h2 hk10) _ _ _ _ _ h
noncomputable def b_262_52 (R : mjR) (k10 : Nat → Int32 → mjH → mjU) (l0 : Nat) (l2 : Int32) (hp : mjH) : mjU := b_262_57 R k10 l0 l2 (1 : Int32) hp
theorem t_262_52 {X : mjX} {d C S kc ks : Nat} {R : mjR} (hR : mjC R d) (h1 : kc ≤ C) (h2 : ks ≤ S) {k10 : Nat → Int32 → mjH → mjU} (hk10 : P_262_10 X (d + 1) C S kc ks k10) : P_262_52 X (d + 1) C S kc ks (b_262_52 R k10) := by
  intro l0 l2 hp q h
  unfold b_262_52 at h
  refine mjq_ic (v := (1 : Int32)) D_262_52 rfl ?_
  refine mjr_goto (tgt := 57) D_262_53 rfl ?_
  exact (t_262_57 hR h1 h2 hk10) _ _ _ _ _ h
noncomputable def b_262_10 (R : mjR) (k10 : Nat → Int32 → mjH → mjU) (l0 : Nat) (l1 : Int32) (hp : mjH) : mjU := (if l1 = 0 then gI hp l0 12 4 (fun v1 => pI hp l0 12 5 v1 (fun hp2 => gI hp2 l0 12 4 (fun v3 => gI hp2 l0 12 2 (fun v4 => (if v3 < v4 then gI hp2 l0 12 4 (fun v5 => rV hp2 l0 12 (bI (R 263 [.ref l0, .int v5] hp2) (fun v6 hp7 => (if v6 < (48 : Int32) then b_262_291 R l0 v6 hp7 else (if (57 : Int32) < v6 then b_262_291 R l0 v6 hp7 else pI hp7 l0 12 6 (0 : Int32) (fun hp8 => L_262_188 R mjN l0 hp8)))))) else pI hp2 l0 12 3 (0 : Int32) (fun hp9 => gI hp9 l0 12 2 (fun v10 => pI hp9 l0 12 4 v10 (fun hp11 => gI hp11 l0 12 2 (fun v12 => pI hp11 l0 12 5 v12 (fun hp13 => some (none, hp13))))))))))) else gI hp l0 12 4 (fun v14 => rV hp l0 12 (bI (R 263 [.ref l0, .int v14] hp) (fun v15 hp16 => gI hp16 l0 12 4 (fun v17 => gI hp16 l0 12 2 (fun v18 => (if v18 ≤ v17 then b_262_56 R k10 l0 v15 hp16 else (if v15 = (10 : Int32) then b_262_52 R k10 l0 v15 hp16 else (if v15 = (32 : Int32) then b_262_52 R k10 l0 v15 hp16 else (if v15 = (35 : Int32) then b_262_52 R k10 l0 v15 hp16 else b_262_56 R k10 l0 v15 hp16))))))))))
theorem t_262_10 {X : mjX} {d C S kc ks : Nat} {R : mjR} (hR : mjC R d) (h1 : kc ≤ C) (h2 : ks ≤ S) {k10 : Nat → Int32 → mjH → mjU} (hk10 : P_262_10 X (d + 1) C S kc ks k10) : P_262_10 X (d + 1) C S kc ks (b_262_10 R k10) := by
  intro l0 l1 hp q h
  unfold b_262_10 at h
  refine mjr_iload_n (x := l1) D_262_10 rfl ?_
  refine mjq_if_eq (tgt := 121) D_262_11 rfl h (fun h => ?_) (fun h => ?_)
  · refine mjr_aload_n (x := l0) D_262_121 rfl ?_
    refine mjr_aload_n (x := l0) D_262_122 rfl ?_
    refine mjq_gI D_262_123 fr_12_310 h (fun v1 h => ?_)
    refine mjq_pI D_262_126 fr_12_307 rfl rfl h (fun hp2 h => ?_)
    refine mjr_aload_n (x := l0) D_262_129 rfl ?_
    refine mjq_gI D_262_130 fr_12_310 h (fun v3 h => ?_)
    refine mjr_aload_n (x := l0) D_262_133 rfl ?_
    refine mjq_gI D_262_134 fr_12_304 h (fun v4 h => ?_)
    refine mjq_icmp_lt (tgt := 162) D_262_137 rfl h (fun h => ?_) (fun h => ?_)
    · refine mjr_aload_n (x := l0) D_262_162 rfl ?_
      refine mjr_aload_n (x := l0) D_262_163 rfl ?_
      refine mjq_gI D_262_164 fr_12_310 h (fun v5 h => ?_)
      refine mjq_vI (As := [.int v5]) (rest := []) D_262_167 mr_12_313 V_263 rfl rfl rfl hR (Nat.le_refl _) h1 h2 h (fun v6 hp7 h => ?_)
      refine mjq_istore_n (lo' := [some (.ref l0), some (.int l1), some (.int v6)]) D_262_170 (Nat.le_of_ble_eq_true rfl) rfl ?_
      refine mjr_iload_n (x := v6) D_262_171 rfl ?_
      refine mjq_bi (v := (48 : Int32)) D_262_172 rfl ?_
      refine mjq_icmp_lt (tgt := 291) D_262_174 rfl h (fun h => ?_) (fun h => ?_)
      · exact mjG.fg (lo' := [some (.ref l0), none, some (.int v6)]) (And.intro rfl (And.intro rfl True.intro)) ((t_262_291 hR h1 h2) _ _ _ _ h)
      · refine mjr_iload_n (x := v6) D_262_177 rfl ?_
        refine mjq_bi (v := (57 : Int32)) D_262_178 rfl ?_
        refine mjq_icmp_gt (tgt := 291) D_262_180 rfl h (fun h => ?_) (fun h => ?_)
        · exact mjG.fg (lo' := [some (.ref l0), none, some (.int v6)]) (And.intro rfl (And.intro rfl True.intro)) ((t_262_291 hR h1 h2) _ _ _ _ h)
        · refine mjr_aload_n (x := l0) D_262_183 rfl ?_
          refine mjq_ic (v := (0 : Int32)) D_262_184 rfl ?_
          refine mjq_pI D_262_185 fr_12_319 rfl rfl h (fun hp8 h => ?_)
          exact mjG.fg (lo' := [some (.ref l0), none, none]) (And.intro rfl True.intro) ((T_262_188 hR h1 h2 mjN) _ _ _ h)
    · refine mjr_aload_n (x := l0) D_262_140 rfl ?_
      refine mjq_ic (v := (0 : Int32)) D_262_141 rfl ?_
      refine mjq_pI D_262_142 fr_12_316 rfl rfl h (fun hp9 h => ?_)
      refine mjr_aload_n (x := l0) D_262_145 rfl ?_
      refine mjr_aload_n (x := l0) D_262_146 rfl ?_
      refine mjq_gI D_262_147 fr_12_304 h (fun v10 h => ?_)
      refine mjq_pI D_262_150 fr_12_310 rfl rfl h (fun hp11 h => ?_)
      refine mjr_aload_n (x := l0) D_262_153 rfl ?_
      refine mjr_aload_n (x := l0) D_262_154 rfl ?_
      refine mjq_gI D_262_155 fr_12_304 h (fun v12 h => ?_)
      refine mjq_pI D_262_158 fr_12_307 rfl rfl h (fun hp13 h => ?_)
      exact mjq_nret D_262_161 rfl h1 h2 h
  · refine mjr_aload_n (x := l0) D_262_14 rfl ?_
    refine mjr_aload_n (x := l0) D_262_15 rfl ?_
    refine mjq_gI D_262_16 fr_12_310 h (fun v14 h => ?_)
    refine mjq_vI (As := [.int v14]) (rest := []) D_262_19 mr_12_313 V_263 rfl rfl rfl hR (Nat.le_refl _) h1 h2 h (fun v15 hp16 h => ?_)
    refine mjq_istore_n (lo' := [some (.ref l0), some (.int l1), some (.int v15)]) D_262_22 (Nat.le_of_ble_eq_true rfl) rfl ?_
    refine mjr_aload_n (x := l0) D_262_23 rfl ?_
    refine mjq_gI D_262_24 fr_12_310 h (fun v17 h => ?_)
    refine mjr_aload_n (x := l0) D_262_27 rfl ?_
    refine mjq_gI D_262_28 fr_12_304 h (fun v18 h => ?_)
    refine mjq_icmp_ge (tgt := 56) D_262_31 rfl h (fun h => ?_) (fun h => ?_)
    · exact mjG.fg (lo' := [some (.ref l0), none, some (.int v15)]) (And.intro rfl (And.intro rfl True.intro)) ((t_262_56 hR h1 h2 hk10) _ _ _ _ h)
    · refine mjr_iload_n (x := v15) D_262_34 rfl ?_
      refine mjq_bi (v := (10 : Int32)) D_262_35 rfl ?_
      refine mjq_icmp_eq (tgt := 52) D_262_37 rfl h (fun h => ?_) (fun h => ?_)
      · exact mjG.fg (lo' := [some (.ref l0), none, some (.int v15)]) (And.intro rfl (And.intro rfl True.intro)) ((t_262_52 hR h1 h2 hk10) _ _ _ _ h)
      · refine mjr_iload_n (x := v15) D_262_40 rfl ?_
        refine mjq_bi (v := (32 : Int32)) D_262_41 rfl ?_
        refine mjq_icmp_eq (tgt := 52) D_262_43 rfl h (fun h => ?_) (fun h => ?_)
        · exact mjG.fg (lo' := [some (.ref l0), none, some (.int v15)]) (And.intro rfl (And.intro rfl True.intro)) ((t_262_52 hR h1 h2 hk10) _ _ _ _ h)
        · refine mjr_iload_n (x := v15) D_262_46 rfl ?_
          refine mjq_bi (v := (35 : Int32)) D_262_47 rfl ?_
          refine mjq_icmp_ne (tgt := 56) D_262_49 rfl h (fun h => ?_) (fun h => ?_)
          · exact mjG.fg (lo' := [some (.ref l0), none, some (.int v15)]) (And.intro rfl (And.intro rfl True.intro)) ((t_262_56 hR h1 h2 hk10) _ _ _ _ h)
          · exact mjG.fg (lo' := [some (.ref l0), none, some (.int v15)]) (And.intro rfl (And.intro rfl True.intro)) ((t_262_52 hR h1 h2 hk10) _ _ _ _ h)
noncomputable def L_262_10 (R : mjR) (n : Nat) : Nat → Int32 → mjH → mjU := Nat.rec (motive := fun _ => Nat → Int32 → mjH → mjU) (fun _ _ _ => none) (fun _ self => b_262_10 R self) n
theorem T_262_10 {X : mjX} {d C S kc ks : Nat} {R : mjR} (hR : mjC R d) (h1 : kc ≤ C) (h2 : ks ≤ S) (n : Nat) : P_262_10 X (d + 1) C S kc ks (L_262_10 R n) := by
  induction n with
  | zero => intro _ _ _ _ h; exact mj_no h
  | succ n ih => exact t_262_10 hR h1 h2 ih
noncomputable def b_262_0 (R : mjR) (l0 : Nat) (hp : mjH) : mjU := gI hp l0 12 5 (fun v1 => pI hp l0 12 4 v1 (fun hp2 => L_262_10 R mjN l0 (1 : Int32) hp2))
theorem t_262_0 {X : mjX} {d C S kc ks : Nat} {R : mjR} (hR : mjC R d) (h1 : kc ≤ C) (h2 : ks ≤ S) : P_262_0 X (d + 1) C S kc ks (b_262_0 R) := by
  intro l0 hp q h
  unfold b_262_0 at h
  refine mjr_aload_n (x := l0) D_262_0 rfl ?_
  refine mjr_aload_n (x := l0) D_262_1 rfl ?_
  refine mjq_gI D_262_2 fr_12_307 h (fun v1 h => ?_)
  refine mjq_pI D_262_5 fr_12_310 rfl rfl h (fun hp2 h => ?_)
  refine mjq_ic (v := (1 : Int32)) D_262_8 rfl ?_
  refine mjq_istore_n (lo' := [some (.ref l0), some (.int (1 : Int32)), none]) D_262_9 (Nat.le_of_ble_eq_true rfl) rfl ?_
  exact (T_262_10 hR h1 h2 mjN) _ _ _ _ h
noncomputable def f_262 (R : mjR) (a0 : Nat) (hp : mjH) : mjU := b_262_0 R a0 hp
theorem c_262 {R : mjR} {d : Nat} (hR : mjC R d) {a0 : Nat} {hp : mjH} {q : Option Value × mjH} (h : f_262 R a0 hp = some q) : mjM (d + 1) 0 0 262 [.ref a0] hp (mjEq q) :=
  mjM_of Ja_262 (Nat.le_of_ble_eq_true rfl) (mjG.fg (lo' := [some (.ref a0), none, none]) (And.intro rfl True.intro) ((t_262_0 hR (Nat.le_refl 0) (Nat.le_refl 0)) a0 hp q h))
def J_263 : mjI := (⟨"OwnerHeapModel", "look", "(I)I"⟩, 12, prog_14_method_5_code, 2, (some .int), 1, false)
theorem Ja_263 : mjMt 263 = some J_263 := by rfl
theorem D_263_0 : decode J_263.2.2.1 0 = .ok (.iload_n 1, 1) := dzq_27 (by decide +kernel)
theorem D_263_1 : decode J_263.2.2.1 1 = .ok (.aload_n 0, 1) := dzq_42 (by decide +kernel)
theorem D_263_2 : decode J_263.2.2.1 2 = .ok (.getfield 304, 3) := dzq_180 (by decide +kernel)
theorem D_263_5 : decode J_263.2.2.1 5 = .ok (.if_icmp .ge 16, 3) := dzq_162 (by decide +kernel)
theorem D_263_8 : decode J_263.2.2.1 8 = .ok (.aload_n 0, 1) := dzq_42 (by decide +kernel)
theorem D_263_9 : decode J_263.2.2.1 9 = .ok (.getfield 7, 3) := dzq_180 (by decide +kernel)
theorem D_263_12 : decode J_263.2.2.1 12 = .ok (.iload_n 1, 1) := dzq_27 (by decide +kernel)
theorem D_263_13 : decode J_263.2.2.1 13 = .ok (.baload, 1) := dzq_51 (by decide +kernel)
theorem D_263_14 : decode J_263.2.2.1 14 = .ok (.sipush 255, 3) := dzq_17 (by decide +kernel)
theorem D_263_17 : decode J_263.2.2.1 17 = .ok (.iand, 1) := by decide +kernel
theorem D_263_18 : decode J_263.2.2.1 18 = .ok (.goto 4, 3) := dzq_167 (by decide +kernel)
theorem D_263_21 : decode J_263.2.2.1 21 = .ok (.iconst 0, 1) := dzq_3 (by decide +kernel)
theorem D_263_22 : decode J_263.2.2.1 22 = .ok (.ireturn, 1) := dzq_172 (by decide +kernel)
def P_263_0 (X : mjX) (d C S kc ks : Nat) (k : Nat → Int32 → mjH → mjU) : Prop := ∀ (l0 : Nat) (l1 : Int32) (hp : mjH) (q : Option Value × mjH), k l0 l1 hp = some q → mjG X d C S J_263 (mjEq q) 0 [some (.ref l0), some (.int l1)] [] hp kc ks
noncomputable def b_263_0 (R : mjR) (l0 : Nat) (l1 : Int32) (hp : mjH) : mjU := gI hp l0 12 2 (fun v1 => (if v1 ≤ l1 then some (some (.int (0 : Int32)), hp) else gR hp l0 12 0 (fun v2 => aB hp v2 l1 (fun v3 => some (some (.int (v3 &&& (255 : Int32))), hp)))))
theorem t_263_0 {X : mjX} {d C S kc ks : Nat} {R : mjR} (hR : mjC R d) (h1 : kc ≤ C) (h2 : ks ≤ S) : P_263_0 X (d + 1) C S kc ks (b_263_0 R) := by
  intro l0 l1 hp q h
  unfold b_263_0 at h
  refine mjr_iload_n (x := l1) D_263_0 rfl ?_
  refine mjr_aload_n (x := l0) D_263_1 rfl ?_
  refine mjq_gI D_263_2 fr_12_304 h (fun v1 h => ?_)
  refine mjq_icmp_ge (tgt := 21) D_263_5 rfl h (fun h => ?_) (fun h => ?_)
  · refine mjq_ic (v := (0 : Int32)) D_263_21 rfl ?_
    exact mjq_ret D_263_22 rfl h1 h2 h
  · refine mjr_aload_n (x := l0) D_263_8 rfl ?_
    refine mjq_gR D_263_9 fr_12_7 h (fun v2 h => ?_)
    refine mjr_iload_n (x := l1) D_263_12 rfl ?_
    refine mjq_aB D_263_13 h (fun v3 h => ?_)
    refine mjq_si (v := (255 : Int32)) D_263_14 rfl ?_
    refine mjr_iand D_263_17 ?_
    refine mjr_goto (tgt := 22) D_263_18 rfl ?_
    exact mjq_ret D_263_22 rfl h1 h2 h
noncomputable def f_263 (R : mjR) (a0 : Nat) (a1 : Int32) (hp : mjH) : mjU := b_263_0 R a0 a1 hp
theorem c_263 {R : mjR} {d : Nat} (hR : mjC R d) {a0 : Nat} {a1 : Int32} {hp : mjH} {q : Option Value × mjH} (h : f_263 R a0 a1 hp = some q) : mjM (d + 1) 0 0 263 [.ref a0, .int a1] hp (mjEq q) :=
  mjM_of Ja_263 (Nat.le_of_ble_eq_true rfl) (mjG.fg (lo' := [some (.ref a0), some (.int a1)]) (And.intro rfl (And.intro rfl True.intro)) ((t_263_0 hR (Nat.le_refl 0) (Nat.le_refl 0)) a0 a1 hp q h))
def J_264 : mjI := (⟨"OwnerHeapModel", "keptWord", "()V"⟩, 12, prog_14_method_7_code, 2, none, 0, false)
theorem Ja_264 : mjMt 264 = some J_264 := by rfl
theorem D_264_0 : decode J_264.2.2.1 0 = .ok (.iconst 1, 1) := dzq_4 (by decide +kernel)
theorem D_264_1 : decode J_264.2.2.1 1 = .ok (.istore_n 1, 1) := dzq_60 (by decide +kernel)
theorem D_264_2 : decode J_264.2.2.1 2 = .ok (.iload_n 1, 1) := dzq_27 (by decide +kernel)
theorem D_264_3 : decode J_264.2.2.1 3 = .ok (.bipush 16, 2) := dzq_16 (by decide +kernel)
theorem D_264_5 : decode J_264.2.2.1 5 = .ok (.if_icmp .gt 36, 3) := dzq_163 (by decide +kernel)
theorem D_264_8 : decode J_264.2.2.1 8 = .ok (.aload_n 0, 1) := dzq_42 (by decide +kernel)
theorem D_264_9 : decode J_264.2.2.1 9 = .ok (.getfield 13, 3) := dzq_180 (by decide +kernel)
theorem D_264_12 : decode J_264.2.2.1 12 = .ok (.iload_n 1, 1) := dzq_27 (by decide +kernel)
theorem D_264_13 : decode J_264.2.2.1 13 = .ok (.laload, 1) := dzq_47 (by decide +kernel)
theorem D_264_14 : decode J_264.2.2.1 14 = .ok (.aload_n 0, 1) := dzq_42 (by decide +kernel)
theorem D_264_15 : decode J_264.2.2.1 15 = .ok (.getfield 322, 3) := dzq_180 (by decide +kernel)
theorem D_264_18 : decode J_264.2.2.1 18 = .ok (.lcmp, 1) := by decide +kernel
theorem D_264_19 : decode J_264.2.2.1 19 = .ok (.ifCond .eq 6, 3) := dzq_153 (by decide +kernel)
theorem D_264_22 : decode J_264.2.2.1 22 = .ok (.goto 13, 3) := dzq_167 (by decide +kernel)
theorem D_264_25 : decode J_264.2.2.1 25 = .ok (.aload_n 0, 1) := dzq_42 (by decide +kernel)
theorem D_264_26 : decode J_264.2.2.1 26 = .ok (.iconst 5, 1) := dzq_8 (by decide +kernel)
theorem D_264_27 : decode J_264.2.2.1 27 = .ok (.putfield 316, 3) := dzq_181 (by decide +kernel)
theorem D_264_30 : decode J_264.2.2.1 30 = .ok (.aload_n 0, 1) := dzq_42 (by decide +kernel)
theorem D_264_31 : decode J_264.2.2.1 31 = .ok (.iload_n 1, 1) := dzq_27 (by decide +kernel)
theorem D_264_32 : decode J_264.2.2.1 32 = .ok (.putfield 319, 3) := dzq_181 (by decide +kernel)
theorem D_264_35 : decode J_264.2.2.1 35 = .ok (.iinc 1 1, 3) := dzq_132 (by decide +kernel)
theorem D_264_38 : decode J_264.2.2.1 38 = .ok (.goto (-36), 3) := dzq_167 (by decide +kernel)
theorem D_264_41 : decode J_264.2.2.1 41 = .ok (.return_, 1) := dzq_177 (by decide +kernel)
def P_264_35 (X : mjX) (d C S kc ks : Nat) (k : Nat → Int32 → mjH → mjU) : Prop := ∀ (l0 : Nat) (l1 : Int32) (hp : mjH) (q : Option Value × mjH), k l0 l1 hp = some q → mjG X d C S J_264 (mjEq q) 35 [some (.ref l0), some (.int l1)] [] hp kc ks
def P_264_2 (X : mjX) (d C S kc ks : Nat) (k : Nat → Int32 → mjH → mjU) : Prop := ∀ (l0 : Nat) (l1 : Int32) (hp : mjH) (q : Option Value × mjH), k l0 l1 hp = some q → mjG X d C S J_264 (mjEq q) 2 [some (.ref l0), some (.int l1)] [] hp kc ks
def P_264_0 (X : mjX) (d C S kc ks : Nat) (k : Nat → mjH → mjU) : Prop := ∀ (l0 : Nat) (hp : mjH) (q : Option Value × mjH), k l0 hp = some q → mjG X d C S J_264 (mjEq q) 0 [some (.ref l0), none] [] hp kc ks
noncomputable def b_264_35 (R : mjR) (k2 : Nat → Int32 → mjH → mjU) (l0 : Nat) (l1 : Int32) (hp : mjH) : mjU := k2 l0 (l1 + (1 : Int32)) hp
theorem t_264_35 {X : mjX} {d C S kc ks : Nat} {R : mjR} (hR : mjC R d) (h1 : kc ≤ C) (h2 : ks ≤ S) {k2 : Nat → Int32 → mjH → mjU} (hk2 : P_264_2 X (d + 1) C S kc ks k2) : P_264_35 X (d + 1) C S kc ks (b_264_35 R k2) := by
  intro l0 l1 hp q h
  unfold b_264_35 at h
  refine mjq_iinc (x := l1) (c := (1 : Int32)) (lo' := [some (.ref l0), some (.int (l1 + (1 : Int32)))]) D_264_35 rfl (Nat.le_of_ble_eq_true rfl) rfl rfl ?_
  refine mjr_goto (tgt := 2) D_264_38 rfl ?_
  exact hk2 _ _ _ _ h
noncomputable def b_264_2 (R : mjR) (k2 : Nat → Int32 → mjH → mjU) (l0 : Nat) (l1 : Int32) (hp : mjH) : mjU := (if (16 : Int32) < l1 then some (none, hp) else gR hp l0 12 8 (fun v1 => aL hp v1 l1 (fun v2 => gL hp l0 12 7 (fun v3 => (if (lg_cmp v2 v3) = 0 then pI hp l0 12 3 (5 : Int32) (fun hp4 => pI hp4 l0 12 6 l1 (fun hp5 => b_264_35 R k2 l0 l1 hp5)) else b_264_35 R k2 l0 l1 hp)))))
theorem t_264_2 {X : mjX} {d C S kc ks : Nat} {R : mjR} (hR : mjC R d) (h1 : kc ≤ C) (h2 : ks ≤ S) {k2 : Nat → Int32 → mjH → mjU} (hk2 : P_264_2 X (d + 1) C S kc ks k2) : P_264_2 X (d + 1) C S kc ks (b_264_2 R k2) := by
  intro l0 l1 hp q h
  unfold b_264_2 at h
  refine mjr_iload_n (x := l1) D_264_2 rfl ?_
  refine mjq_bi (v := (16 : Int32)) D_264_3 rfl ?_
  refine mjq_icmp_gt (tgt := 41) D_264_5 rfl h (fun h => ?_) (fun h => ?_)
  · exact mjq_nret D_264_41 rfl h1 h2 h
  · refine mjr_aload_n (x := l0) D_264_8 rfl ?_
    refine mjq_gR D_264_9 fr_12_13 h (fun v1 h => ?_)
    refine mjr_iload_n (x := l1) D_264_12 rfl ?_
    refine mjq_aL D_264_13 h (fun v2 h => ?_)
    refine mjr_aload_n (x := l0) D_264_14 rfl ?_
    refine mjq_gL D_264_15 fr_12_322 h (fun v3 h => ?_)
    refine mjr_lcmp D_264_18 ?_
    refine mjq_if_eq (tgt := 25) D_264_19 rfl h (fun h => ?_) (fun h => ?_)
    · refine mjr_aload_n (x := l0) D_264_25 rfl ?_
      refine mjq_ic (v := (5 : Int32)) D_264_26 rfl ?_
      refine mjq_pI D_264_27 fr_12_316 rfl rfl h (fun hp4 h => ?_)
      refine mjr_aload_n (x := l0) D_264_30 rfl ?_
      refine mjr_iload_n (x := l1) D_264_31 rfl ?_
      refine mjq_pI D_264_32 fr_12_319 rfl rfl h (fun hp5 h => ?_)
      exact (t_264_35 hR h1 h2 hk2) _ _ _ _ h
    · refine mjr_goto (tgt := 35) D_264_22 rfl ?_
      exact (t_264_35 hR h1 h2 hk2) _ _ _ _ h
noncomputable def L_264_2 (R : mjR) (n : Nat) : Nat → Int32 → mjH → mjU := Nat.rec (motive := fun _ => Nat → Int32 → mjH → mjU) (fun _ _ _ => none) (fun _ self => b_264_2 R self) n
theorem T_264_2 {X : mjX} {d C S kc ks : Nat} {R : mjR} (hR : mjC R d) (h1 : kc ≤ C) (h2 : ks ≤ S) (n : Nat) : P_264_2 X (d + 1) C S kc ks (L_264_2 R n) := by
  induction n with
  | zero => intro _ _ _ _ h; exact mj_no h
  | succ n ih => exact t_264_2 hR h1 h2 ih
noncomputable def b_264_0 (R : mjR) (l0 : Nat) (hp : mjH) : mjU := L_264_2 R mjN l0 (1 : Int32) hp
theorem t_264_0 {X : mjX} {d C S kc ks : Nat} {R : mjR} (hR : mjC R d) (h1 : kc ≤ C) (h2 : ks ≤ S) : P_264_0 X (d + 1) C S kc ks (b_264_0 R) := by
  intro l0 hp q h
  unfold b_264_0 at h
  refine mjq_ic (v := (1 : Int32)) D_264_0 rfl ?_
  refine mjq_istore_n (lo' := [some (.ref l0), some (.int (1 : Int32))]) D_264_1 (Nat.le_of_ble_eq_true rfl) rfl ?_
  exact (T_264_2 hR h1 h2 mjN) _ _ _ _ h
noncomputable def f_264 (R : mjR) (a0 : Nat) (hp : mjH) : mjU := b_264_0 R a0 hp
theorem c_264 {R : mjR} {d : Nat} (hR : mjC R d) {a0 : Nat} {hp : mjH} {q : Option Value × mjH} (h : f_264 R a0 hp = some q) : mjM (d + 1) 0 0 264 [.ref a0] hp (mjEq q) :=
  mjM_of Ja_264 (Nat.le_of_ble_eq_true rfl) (mjG.fg (lo' := [some (.ref a0), none]) (And.intro rfl True.intro) ((t_264_0 hR (Nat.le_refl 0) (Nat.le_refl 0)) a0 hp q h))
def J_265 : mjI := (⟨"OwnerHeapModel", "sign", "(I)V"⟩, 12, prog_14_method_8_code, 3, none, 1, false)
theorem Ja_265 : mjMt 265 = some J_265 := by rfl
theorem D_265_0 : decode J_265.2.2.1 0 = .ok (.aload_n 0, 1) := dzq_42 (by decide +kernel)
theorem D_265_1 : decode J_265.2.2.1 1 = .ok (.iconst 4, 1) := dzq_7 (by decide +kernel)
theorem D_265_2 : decode J_265.2.2.1 2 = .ok (.putfield 316, 3) := dzq_181 (by decide +kernel)
theorem D_265_5 : decode J_265.2.2.1 5 = .ok (.aload_n 0, 1) := dzq_42 (by decide +kernel)
theorem D_265_6 : decode J_265.2.2.1 6 = .ok (.iload_n 1, 1) := dzq_27 (by decide +kernel)
theorem D_265_7 : decode J_265.2.2.1 7 = .ok (.putfield 319, 3) := dzq_181 (by decide +kernel)
theorem D_265_10 : decode J_265.2.2.1 10 = .ok (.aload_n 0, 1) := dzq_42 (by decide +kernel)
theorem D_265_11 : decode J_265.2.2.1 11 = .ok (.aload_n 0, 1) := dzq_42 (by decide +kernel)
theorem D_265_12 : decode J_265.2.2.1 12 = .ok (.getfield 310, 3) := dzq_180 (by decide +kernel)
theorem D_265_15 : decode J_265.2.2.1 15 = .ok (.iconst 1, 1) := dzq_4 (by decide +kernel)
theorem D_265_16 : decode J_265.2.2.1 16 = .ok (.iadd, 1) := dzq_96 (by decide +kernel)
theorem D_265_17 : decode J_265.2.2.1 17 = .ok (.putfield 307, 3) := dzq_181 (by decide +kernel)
theorem D_265_20 : decode J_265.2.2.1 20 = .ok (.aload_n 0, 1) := dzq_42 (by decide +kernel)
theorem D_265_21 : decode J_265.2.2.1 21 = .ok (.aload_n 0, 1) := dzq_42 (by decide +kernel)
theorem D_265_22 : decode J_265.2.2.1 22 = .ok (.getfield 310, 3) := dzq_180 (by decide +kernel)
theorem D_265_25 : decode J_265.2.2.1 25 = .ok (.iconst 1, 1) := dzq_4 (by decide +kernel)
theorem D_265_26 : decode J_265.2.2.1 26 = .ok (.iadd, 1) := dzq_96 (by decide +kernel)
theorem D_265_27 : decode J_265.2.2.1 27 = .ok (.invokevirtual 313, 3) := dzq_182 (by decide +kernel)
theorem D_265_30 : decode J_265.2.2.1 30 = .ok (.bipush 61, 2) := dzq_16 (by decide +kernel)
theorem D_265_32 : decode J_265.2.2.1 32 = .ok (.if_icmp .ne 19, 3) := dzq_160 (by decide +kernel)
theorem D_265_35 : decode J_265.2.2.1 35 = .ok (.iload_n 1, 1) := dzq_27 (by decide +kernel)
theorem D_265_36 : decode J_265.2.2.1 36 = .ok (.bipush 61, 2) := dzq_16 (by decide +kernel)
theorem D_265_38 : decode J_265.2.2.1 38 = .ok (.if_icmp .eq 9, 3) := dzq_159 (by decide +kernel)
theorem D_265_41 : decode J_265.2.2.1 41 = .ok (.iload_n 1, 1) := dzq_27 (by decide +kernel)
theorem D_265_42 : decode J_265.2.2.1 42 = .ok (.bipush 33, 2) := dzq_16 (by decide +kernel)
theorem D_265_44 : decode J_265.2.2.1 44 = .ok (.if_icmp .ne 7, 3) := dzq_160 (by decide +kernel)
theorem D_265_47 : decode J_265.2.2.1 47 = .ok (.iconst 1, 1) := dzq_4 (by decide +kernel)
theorem D_265_48 : decode J_265.2.2.1 48 = .ok (.goto 4, 3) := dzq_167 (by decide +kernel)
theorem D_265_51 : decode J_265.2.2.1 51 = .ok (.iconst 0, 1) := dzq_3 (by decide +kernel)
theorem D_265_52 : decode J_265.2.2.1 52 = .ok (.istore_n 2, 1) := dzq_61 (by decide +kernel)
theorem D_265_53 : decode J_265.2.2.1 53 = .ok (.iload_n 2, 1) := dzq_28 (by decide +kernel)
theorem D_265_54 : decode J_265.2.2.1 54 = .ok (.ifCond .eq 33, 3) := dzq_153 (by decide +kernel)
theorem D_265_57 : decode J_265.2.2.1 57 = .ok (.aload_n 0, 1) := dzq_42 (by decide +kernel)
theorem D_265_58 : decode J_265.2.2.1 58 = .ok (.iload_n 1, 1) := dzq_27 (by decide +kernel)
theorem D_265_59 : decode J_265.2.2.1 59 = .ok (.bipush 61, 2) := dzq_16 (by decide +kernel)
theorem D_265_61 : decode J_265.2.2.1 61 = .ok (.if_icmp .ne 9, 3) := dzq_160 (by decide +kernel)
theorem D_265_64 : decode J_265.2.2.1 64 = .ok (.sipush 257, 3) := dzq_17 (by decide +kernel)
theorem D_265_67 : decode J_265.2.2.1 67 = .ok (.goto 6, 3) := dzq_167 (by decide +kernel)
theorem D_265_70 : decode J_265.2.2.1 70 = .ok (.sipush 258, 3) := dzq_17 (by decide +kernel)
theorem D_265_73 : decode J_265.2.2.1 73 = .ok (.putfield 319, 3) := dzq_181 (by decide +kernel)
theorem D_265_76 : decode J_265.2.2.1 76 = .ok (.aload_n 0, 1) := dzq_42 (by decide +kernel)
theorem D_265_77 : decode J_265.2.2.1 77 = .ok (.aload_n 0, 1) := dzq_42 (by decide +kernel)
theorem D_265_78 : decode J_265.2.2.1 78 = .ok (.getfield 310, 3) := dzq_180 (by decide +kernel)
theorem D_265_81 : decode J_265.2.2.1 81 = .ok (.iconst 2, 1) := dzq_5 (by decide +kernel)
theorem D_265_82 : decode J_265.2.2.1 82 = .ok (.iadd, 1) := dzq_96 (by decide +kernel)
theorem D_265_83 : decode J_265.2.2.1 83 = .ok (.putfield 307, 3) := dzq_181 (by decide +kernel)
theorem D_265_86 : decode J_265.2.2.1 86 = .ok (.return_, 1) := dzq_177 (by decide +kernel)
theorem D_265_87 : decode J_265.2.2.1 87 = .ok (.iload_n 1, 1) := dzq_27 (by decide +kernel)
theorem D_265_88 : decode J_265.2.2.1 88 = .ok (.lookupswitch 143 #[(37, 140), (40, 140), (41, 140), (42, 140), (43, 140), (44, 140), (45, 140), (46, 140), (47, 140), (59, 140), (60, 140), (61, 140), (91, 140), (93, 140), (123, 140), (125, 140)], 140) := by decide +kernel
theorem D_265_228 : decode J_265.2.2.1 228 = .ok (.goto 9, 3) := dzq_167 (by decide +kernel)
theorem D_265_231 : decode J_265.2.2.1 231 = .ok (.aload_n 0, 1) := dzq_42 (by decide +kernel)
theorem D_265_232 : decode J_265.2.2.1 232 = .ok (.bipush 6, 2) := dzq_16 (by decide +kernel)
theorem D_265_234 : decode J_265.2.2.1 234 = .ok (.putfield 316, 3) := dzq_181 (by decide +kernel)
theorem D_265_237 : decode J_265.2.2.1 237 = .ok (.return_, 1) := dzq_177 (by decide +kernel)
def P_265_228 (X : mjX) (d C S kc ks : Nat) (k : mjH → mjU) : Prop := ∀  (hp : mjH) (q : Option Value × mjH), k  hp = some q → mjG X d C S J_265 (mjEq q) 228 [none, none, none] [] hp kc ks
def P_265_73 (X : mjX) (d C S kc ks : Nat) (k : Nat → Nat → Int32 → mjH → mjU) : Prop := ∀ (l0 : Nat) (s0 : Nat) (s1 : Int32) (hp : mjH) (q : Option Value × mjH), k l0 s0 s1 hp = some q → mjG X d C S J_265 (mjEq q) 73 [some (.ref l0), none, none] [.int s1, .ref s0] hp kc ks
def P_265_52 (X : mjX) (d C S kc ks : Nat) (k : Nat → Int32 → Int32 → mjH → mjU) : Prop := ∀ (l0 : Nat) (l1 : Int32) (s0 : Int32) (hp : mjH) (q : Option Value × mjH), k l0 l1 s0 hp = some q → mjG X d C S J_265 (mjEq q) 52 [some (.ref l0), some (.int l1), none] [.int s0] hp kc ks
def P_265_51 (X : mjX) (d C S kc ks : Nat) (k : Nat → Int32 → mjH → mjU) : Prop := ∀ (l0 : Nat) (l1 : Int32) (hp : mjH) (q : Option Value × mjH), k l0 l1 hp = some q → mjG X d C S J_265 (mjEq q) 51 [some (.ref l0), some (.int l1), none] [] hp kc ks
def P_265_47 (X : mjX) (d C S kc ks : Nat) (k : Nat → Int32 → mjH → mjU) : Prop := ∀ (l0 : Nat) (l1 : Int32) (hp : mjH) (q : Option Value × mjH), k l0 l1 hp = some q → mjG X d C S J_265 (mjEq q) 47 [some (.ref l0), some (.int l1), none] [] hp kc ks
def P_265_0 (X : mjX) (d C S kc ks : Nat) (k : Nat → Int32 → mjH → mjU) : Prop := ∀ (l0 : Nat) (l1 : Int32) (hp : mjH) (q : Option Value × mjH), k l0 l1 hp = some q → mjG X d C S J_265 (mjEq q) 0 [some (.ref l0), some (.int l1), none] [] hp kc ks
noncomputable def b_265_228 (R : mjR)  (hp : mjH) : mjU := some (none, hp)
theorem t_265_228 {X : mjX} {d C S kc ks : Nat} {R : mjR} (hR : mjC R d) (h1 : kc ≤ C) (h2 : ks ≤ S) : P_265_228 X (d + 1) C S kc ks (b_265_228 R) := by
  intro  hp q h
  unfold b_265_228 at h
  refine mjr_goto (tgt := 237) D_265_228 rfl ?_
  exact mjq_nret D_265_237 rfl h1 h2 h
noncomputable def b_265_73 (R : mjR) (l0 : Nat) (s0 : Nat) (s1 : Int32) (hp : mjH) : mjU := pI hp s0 12 6 s1 (fun hp1 => gI hp1 l0 12 4 (fun v2 => pI hp1 l0 12 5 (v2 + (2 : Int32)) (fun hp3 => some (none, hp3))))
theorem t_265_73 {X : mjX} {d C S kc ks : Nat} {R : mjR} (hR : mjC R d) (h1 : kc ≤ C) (h2 : ks ≤ S) : P_265_73 X (d + 1) C S kc ks (b_265_73 R) := by
  intro l0 s0 s1 hp q h
  unfold b_265_73 at h
  refine mjq_pI D_265_73 fr_12_319 rfl rfl h (fun hp1 h => ?_)
  refine mjr_aload_n (x := l0) D_265_76 rfl ?_
  refine mjr_aload_n (x := l0) D_265_77 rfl ?_
  refine mjq_gI D_265_78 fr_12_310 h (fun v2 h => ?_)
  refine mjq_ic (v := (2 : Int32)) D_265_81 rfl ?_
  refine mjr_iadd D_265_82 ?_
  refine mjq_pI D_265_83 fr_12_307 rfl rfl h (fun hp3 h => ?_)
  exact mjq_nret D_265_86 rfl h1 h2 h
noncomputable def b_265_52 (R : mjR) (l0 : Nat) (l1 : Int32) (s0 : Int32) (hp : mjH) : mjU := (if s0 = 0 then (if l1 = (37 : Int32) then b_265_228 R hp else if l1 = (40 : Int32) then b_265_228 R hp else if l1 = (41 : Int32) then b_265_228 R hp else if l1 = (42 : Int32) then b_265_228 R hp else if l1 = (43 : Int32) then b_265_228 R hp else if l1 = (44 : Int32) then b_265_228 R hp else if l1 = (45 : Int32) then b_265_228 R hp else if l1 = (46 : Int32) then b_265_228 R hp else if l1 = (47 : Int32) then b_265_228 R hp else if l1 = (59 : Int32) then b_265_228 R hp else if l1 = (60 : Int32) then b_265_228 R hp else if l1 = (61 : Int32) then b_265_228 R hp else if l1 = (91 : Int32) then b_265_228 R hp else if l1 = (93 : Int32) then b_265_228 R hp else if l1 = (123 : Int32) then b_265_228 R hp else if l1 = (125 : Int32) then b_265_228 R hp else pI hp l0 12 3 (6 : Int32) (fun hp17 => some (none, hp17))) else (if l1 = (61 : Int32) then b_265_73 R l0 l0 (257 : Int32) hp else b_265_73 R l0 l0 (258 : Int32) hp))
theorem t_265_52 {X : mjX} {d C S kc ks : Nat} {R : mjR} (hR : mjC R d) (h1 : kc ≤ C) (h2 : ks ≤ S) : P_265_52 X (d + 1) C S kc ks (b_265_52 R) := by
  intro l0 l1 s0 hp q h
  unfold b_265_52 at h
  refine mjq_istore_n (lo' := [some (.ref l0), some (.int l1), some (.int s0)]) D_265_52 (Nat.le_of_ble_eq_true rfl) rfl ?_
  refine mjr_iload_n (x := s0) D_265_53 rfl ?_
  refine mjq_if_eq (tgt := 87) D_265_54 rfl h (fun h => ?_) (fun h => ?_)
  · refine mjr_iload_n (x := l1) D_265_87 rfl ?_
    refine mjq_lsw (c := (37 : Int32)) (tgt := 228) D_265_88 rfl (by decide) h (fun h => ?_) (fun n1 h => ?_)
    · exact mjG.fg (lo' := [none, none, none]) True.intro ((t_265_228 hR h1 h2) _ _ h)
    refine mjq_lsw (c := (40 : Int32)) (tgt := 228) D_265_88 rfl (by decide) h (fun h => ?_) (fun n2 h => ?_)
    · exact mjG.fg (lo' := [none, none, none]) True.intro ((t_265_228 hR h1 h2) _ _ h)
    refine mjq_lsw (c := (41 : Int32)) (tgt := 228) D_265_88 rfl (by decide) h (fun h => ?_) (fun n3 h => ?_)
    · exact mjG.fg (lo' := [none, none, none]) True.intro ((t_265_228 hR h1 h2) _ _ h)
    refine mjq_lsw (c := (42 : Int32)) (tgt := 228) D_265_88 rfl (by decide) h (fun h => ?_) (fun n4 h => ?_)
    · exact mjG.fg (lo' := [none, none, none]) True.intro ((t_265_228 hR h1 h2) _ _ h)
    refine mjq_lsw (c := (43 : Int32)) (tgt := 228) D_265_88 rfl (by decide) h (fun h => ?_) (fun n5 h => ?_)
    · exact mjG.fg (lo' := [none, none, none]) True.intro ((t_265_228 hR h1 h2) _ _ h)
    refine mjq_lsw (c := (44 : Int32)) (tgt := 228) D_265_88 rfl (by decide) h (fun h => ?_) (fun n6 h => ?_)
    · exact mjG.fg (lo' := [none, none, none]) True.intro ((t_265_228 hR h1 h2) _ _ h)
    refine mjq_lsw (c := (45 : Int32)) (tgt := 228) D_265_88 rfl (by decide) h (fun h => ?_) (fun n7 h => ?_)
    · exact mjG.fg (lo' := [none, none, none]) True.intro ((t_265_228 hR h1 h2) _ _ h)
    refine mjq_lsw (c := (46 : Int32)) (tgt := 228) D_265_88 rfl (by decide) h (fun h => ?_) (fun n8 h => ?_)
    · exact mjG.fg (lo' := [none, none, none]) True.intro ((t_265_228 hR h1 h2) _ _ h)
    refine mjq_lsw (c := (47 : Int32)) (tgt := 228) D_265_88 rfl (by decide) h (fun h => ?_) (fun n9 h => ?_)
    · exact mjG.fg (lo' := [none, none, none]) True.intro ((t_265_228 hR h1 h2) _ _ h)
    refine mjq_lsw (c := (59 : Int32)) (tgt := 228) D_265_88 rfl (by decide) h (fun h => ?_) (fun n10 h => ?_)
    · exact mjG.fg (lo' := [none, none, none]) True.intro ((t_265_228 hR h1 h2) _ _ h)
    refine mjq_lsw (c := (60 : Int32)) (tgt := 228) D_265_88 rfl (by decide) h (fun h => ?_) (fun n11 h => ?_)
    · exact mjG.fg (lo' := [none, none, none]) True.intro ((t_265_228 hR h1 h2) _ _ h)
    refine mjq_lsw (c := (61 : Int32)) (tgt := 228) D_265_88 rfl (by decide) h (fun h => ?_) (fun n12 h => ?_)
    · exact mjG.fg (lo' := [none, none, none]) True.intro ((t_265_228 hR h1 h2) _ _ h)
    refine mjq_lsw (c := (91 : Int32)) (tgt := 228) D_265_88 rfl (by decide) h (fun h => ?_) (fun n13 h => ?_)
    · exact mjG.fg (lo' := [none, none, none]) True.intro ((t_265_228 hR h1 h2) _ _ h)
    refine mjq_lsw (c := (93 : Int32)) (tgt := 228) D_265_88 rfl (by decide) h (fun h => ?_) (fun n14 h => ?_)
    · exact mjG.fg (lo' := [none, none, none]) True.intro ((t_265_228 hR h1 h2) _ _ h)
    refine mjq_lsw (c := (123 : Int32)) (tgt := 228) D_265_88 rfl (by decide) h (fun h => ?_) (fun n15 h => ?_)
    · exact mjG.fg (lo' := [none, none, none]) True.intro ((t_265_228 hR h1 h2) _ _ h)
    refine mjq_lsw (c := (125 : Int32)) (tgt := 228) D_265_88 rfl (by decide) h (fun h => ?_) (fun n16 h => ?_)
    · exact mjG.fg (lo' := [none, none, none]) True.intro ((t_265_228 hR h1 h2) _ _ h)
    refine mjq_lswD (tgt := 231) [(37 : Int32), (40 : Int32), (41 : Int32), (42 : Int32), (43 : Int32), (44 : Int32), (45 : Int32), (46 : Int32), (47 : Int32), (59 : Int32), (60 : Int32), (61 : Int32), (91 : Int32), (93 : Int32), (123 : Int32), (125 : Int32)] D_265_88 rfl (by decide) (mj_all1 n1 (mj_all1 n2 (mj_all1 n3 (mj_all1 n4 (mj_all1 n5 (mj_all1 n6 (mj_all1 n7 (mj_all1 n8 (mj_all1 n9 (mj_all1 n10 (mj_all1 n11 (mj_all1 n12 (mj_all1 n13 (mj_all1 n14 (mj_all1 n15 (mj_all1 n16 mj_all0)))))))))))))))) rfl ?_
    refine mjr_aload_n (x := l0) D_265_231 rfl ?_
    refine mjq_bi (v := (6 : Int32)) D_265_232 rfl ?_
    refine mjq_pI D_265_234 fr_12_316 rfl rfl h (fun hp17 h => ?_)
    exact mjq_nret D_265_237 rfl h1 h2 h
  · refine mjr_aload_n (x := l0) D_265_57 rfl ?_
    refine mjr_iload_n (x := l1) D_265_58 rfl ?_
    refine mjq_bi (v := (61 : Int32)) D_265_59 rfl ?_
    refine mjq_icmp_ne (tgt := 70) D_265_61 rfl h (fun h => ?_) (fun h => ?_)
    · refine mjq_si (v := (258 : Int32)) D_265_70 rfl ?_
      exact mjG.fg (lo' := [some (.ref l0), none, none]) (And.intro rfl True.intro) ((t_265_73 hR h1 h2) _ _ _ _ _ h)
    · refine mjq_si (v := (257 : Int32)) D_265_64 rfl ?_
      refine mjr_goto (tgt := 73) D_265_67 rfl ?_
      exact mjG.fg (lo' := [some (.ref l0), none, none]) (And.intro rfl True.intro) ((t_265_73 hR h1 h2) _ _ _ _ _ h)
noncomputable def b_265_51 (R : mjR) (l0 : Nat) (l1 : Int32) (hp : mjH) : mjU := b_265_52 R l0 l1 (0 : Int32) hp
theorem t_265_51 {X : mjX} {d C S kc ks : Nat} {R : mjR} (hR : mjC R d) (h1 : kc ≤ C) (h2 : ks ≤ S) : P_265_51 X (d + 1) C S kc ks (b_265_51 R) := by
  intro l0 l1 hp q h
  unfold b_265_51 at h
  refine mjq_ic (v := (0 : Int32)) D_265_51 rfl ?_
  exact (t_265_52 hR h1 h2) _ _ _ _ _ h
noncomputable def b_265_47 (R : mjR) (l0 : Nat) (l1 : Int32) (hp : mjH) : mjU := b_265_52 R l0 l1 (1 : Int32) hp
theorem t_265_47 {X : mjX} {d C S kc ks : Nat} {R : mjR} (hR : mjC R d) (h1 : kc ≤ C) (h2 : ks ≤ S) : P_265_47 X (d + 1) C S kc ks (b_265_47 R) := by
  intro l0 l1 hp q h
  unfold b_265_47 at h
  refine mjq_ic (v := (1 : Int32)) D_265_47 rfl ?_
  refine mjr_goto (tgt := 52) D_265_48 rfl ?_
  exact (t_265_52 hR h1 h2) _ _ _ _ _ h
noncomputable def b_265_0 (R : mjR) (l0 : Nat) (l1 : Int32) (hp : mjH) : mjU := pI hp l0 12 3 (4 : Int32) (fun hp1 => pI hp1 l0 12 6 l1 (fun hp2 => gI hp2 l0 12 4 (fun v3 => pI hp2 l0 12 5 (v3 + (1 : Int32)) (fun hp4 => gI hp4 l0 12 4 (fun v5 => rV hp4 l0 12 (bI (R 263 [.ref l0, .int (v5 + (1 : Int32))] hp4) (fun v6 hp7 => (if v6 = (61 : Int32) then (if l1 = (61 : Int32) then b_265_47 R l0 l1 hp7 else (if l1 = (33 : Int32) then b_265_47 R l0 l1 hp7 else b_265_51 R l0 l1 hp7)) else b_265_51 R l0 l1 hp7))))))))
theorem t_265_0 {X : mjX} {d C S kc ks : Nat} {R : mjR} (hR : mjC R d) (h1 : kc ≤ C) (h2 : ks ≤ S) : P_265_0 X (d + 1) C S kc ks (b_265_0 R) := by
  intro l0 l1 hp q h
  unfold b_265_0 at h
  refine mjr_aload_n (x := l0) D_265_0 rfl ?_
  refine mjq_ic (v := (4 : Int32)) D_265_1 rfl ?_
  refine mjq_pI D_265_2 fr_12_316 rfl rfl h (fun hp1 h => ?_)
  refine mjr_aload_n (x := l0) D_265_5 rfl ?_
  refine mjr_iload_n (x := l1) D_265_6 rfl ?_
  refine mjq_pI D_265_7 fr_12_319 rfl rfl h (fun hp2 h => ?_)
  refine mjr_aload_n (x := l0) D_265_10 rfl ?_
  refine mjr_aload_n (x := l0) D_265_11 rfl ?_
  refine mjq_gI D_265_12 fr_12_310 h (fun v3 h => ?_)
  refine mjq_ic (v := (1 : Int32)) D_265_15 rfl ?_
  refine mjr_iadd D_265_16 ?_
  refine mjq_pI D_265_17 fr_12_307 rfl rfl h (fun hp4 h => ?_)
  refine mjr_aload_n (x := l0) D_265_20 rfl ?_
  refine mjr_aload_n (x := l0) D_265_21 rfl ?_
  refine mjq_gI D_265_22 fr_12_310 h (fun v5 h => ?_)
  refine mjq_ic (v := (1 : Int32)) D_265_25 rfl ?_
  refine mjr_iadd D_265_26 ?_
  refine mjq_vI (As := [.int (v5 + (1 : Int32))]) (rest := []) D_265_27 mr_12_313 V_263 rfl rfl rfl hR (Nat.le_refl _) h1 h2 h (fun v6 hp7 h => ?_)
  refine mjq_bi (v := (61 : Int32)) D_265_30 rfl ?_
  refine mjq_icmp_ne (tgt := 51) D_265_32 rfl h (fun h => ?_) (fun h => ?_)
  · exact (t_265_51 hR h1 h2) _ _ _ _ h
  · refine mjr_iload_n (x := l1) D_265_35 rfl ?_
    refine mjq_bi (v := (61 : Int32)) D_265_36 rfl ?_
    refine mjq_icmp_eq (tgt := 47) D_265_38 rfl h (fun h => ?_) (fun h => ?_)
    · exact (t_265_47 hR h1 h2) _ _ _ _ h
    · refine mjr_iload_n (x := l1) D_265_41 rfl ?_
      refine mjq_bi (v := (33 : Int32)) D_265_42 rfl ?_
      refine mjq_icmp_ne (tgt := 51) D_265_44 rfl h (fun h => ?_) (fun h => ?_)
      · exact (t_265_51 hR h1 h2) _ _ _ _ h
      · exact (t_265_47 hR h1 h2) _ _ _ _ h
noncomputable def f_265 (R : mjR) (a0 : Nat) (a1 : Int32) (hp : mjH) : mjU := b_265_0 R a0 a1 hp
theorem c_265 {R : mjR} {d : Nat} (hR : mjC R d) {a0 : Nat} {a1 : Int32} {hp : mjH} {q : Option Value × mjH} (h : f_265 R a0 a1 hp = some q) : mjM (d + 1) 0 0 265 [.ref a0, .int a1] hp (mjEq q) :=
  mjM_of Ja_265 (Nat.le_of_ble_eq_true rfl) (mjG.fg (lo' := [some (.ref a0), some (.int a1), none]) (And.intro rfl (And.intro rfl True.intro)) ((t_265_0 hR (Nat.le_refl 0) (Nat.le_refl 0)) a0 a1 hp q h))
def J_266 : mjI := (⟨"OwnerHeapModel", "isWord", "(I)Z"⟩, 12, prog_14_method_10_code, 2, (some .boolean), 1, false)
theorem Ja_266 : mjMt 266 = some J_266 := by rfl
theorem D_266_0 : decode J_266.2.2.1 0 = .ok (.aload_n 0, 1) := dzq_42 (by decide +kernel)
theorem D_266_1 : decode J_266.2.2.1 1 = .ok (.getfield 316, 3) := dzq_180 (by decide +kernel)
theorem D_266_4 : decode J_266.2.2.1 4 = .ok (.iconst 5, 1) := dzq_8 (by decide +kernel)
theorem D_266_5 : decode J_266.2.2.1 5 = .ok (.if_icmp .ne 15, 3) := dzq_160 (by decide +kernel)
theorem D_266_8 : decode J_266.2.2.1 8 = .ok (.aload_n 0, 1) := dzq_42 (by decide +kernel)
theorem D_266_9 : decode J_266.2.2.1 9 = .ok (.getfield 319, 3) := dzq_180 (by decide +kernel)
theorem D_266_12 : decode J_266.2.2.1 12 = .ok (.iload_n 1, 1) := dzq_27 (by decide +kernel)
theorem D_266_13 : decode J_266.2.2.1 13 = .ok (.if_icmp .ne 7, 3) := dzq_160 (by decide +kernel)
theorem D_266_16 : decode J_266.2.2.1 16 = .ok (.iconst 1, 1) := dzq_4 (by decide +kernel)
theorem D_266_17 : decode J_266.2.2.1 17 = .ok (.goto 4, 3) := dzq_167 (by decide +kernel)
theorem D_266_20 : decode J_266.2.2.1 20 = .ok (.iconst 0, 1) := dzq_3 (by decide +kernel)
theorem D_266_21 : decode J_266.2.2.1 21 = .ok (.ireturn, 1) := dzq_172 (by decide +kernel)
def P_266_20 (X : mjX) (d C S kc ks : Nat) (k : mjH → mjU) : Prop := ∀  (hp : mjH) (q : Option Value × mjH), k  hp = some q → mjG X d C S J_266 (mjEq q) 20 [none, none] [] hp kc ks
def P_266_0 (X : mjX) (d C S kc ks : Nat) (k : Nat → Int32 → mjH → mjU) : Prop := ∀ (l0 : Nat) (l1 : Int32) (hp : mjH) (q : Option Value × mjH), k l0 l1 hp = some q → mjG X d C S J_266 (mjEq q) 0 [some (.ref l0), some (.int l1)] [] hp kc ks
noncomputable def b_266_20 (R : mjR)  (hp : mjH) : mjU := some (some (.int (0 : Int32)), hp)
theorem t_266_20 {X : mjX} {d C S kc ks : Nat} {R : mjR} (hR : mjC R d) (h1 : kc ≤ C) (h2 : ks ≤ S) : P_266_20 X (d + 1) C S kc ks (b_266_20 R) := by
  intro  hp q h
  unfold b_266_20 at h
  refine mjq_ic (v := (0 : Int32)) D_266_20 rfl ?_
  exact mjr_ireturn D_266_21 rfl rfl h1 h2 (Option.some.inj h)
noncomputable def b_266_0 (R : mjR) (l0 : Nat) (l1 : Int32) (hp : mjH) : mjU := gI hp l0 12 3 (fun v1 => (if v1 = (5 : Int32) then gI hp l0 12 6 (fun v2 => (if v2 = l1 then some (some (.int (1 : Int32)), hp) else b_266_20 R hp)) else b_266_20 R hp))
theorem t_266_0 {X : mjX} {d C S kc ks : Nat} {R : mjR} (hR : mjC R d) (h1 : kc ≤ C) (h2 : ks ≤ S) : P_266_0 X (d + 1) C S kc ks (b_266_0 R) := by
  intro l0 l1 hp q h
  unfold b_266_0 at h
  refine mjr_aload_n (x := l0) D_266_0 rfl ?_
  refine mjq_gI D_266_1 fr_12_316 h (fun v1 h => ?_)
  refine mjq_ic (v := (5 : Int32)) D_266_4 rfl ?_
  refine mjq_icmp_ne (tgt := 20) D_266_5 rfl h (fun h => ?_) (fun h => ?_)
  · exact mjG.fg (lo' := [none, none]) True.intro ((t_266_20 hR h1 h2) _ _ h)
  · refine mjr_aload_n (x := l0) D_266_8 rfl ?_
    refine mjq_gI D_266_9 fr_12_319 h (fun v2 h => ?_)
    refine mjr_iload_n (x := l1) D_266_12 rfl ?_
    refine mjq_icmp_ne (tgt := 20) D_266_13 rfl h (fun h => ?_) (fun h => ?_)
    · exact mjG.fg (lo' := [none, none]) True.intro ((t_266_20 hR h1 h2) _ _ h)
    · refine mjq_ic (v := (1 : Int32)) D_266_16 rfl ?_
      refine mjr_goto (tgt := 21) D_266_17 rfl ?_
      exact mjr_ireturn D_266_21 rfl rfl h1 h2 (Option.some.inj h)
noncomputable def f_266 (R : mjR) (a0 : Nat) (a1 : Int32) (hp : mjH) : mjU := b_266_0 R a0 a1 hp
theorem c_266 {R : mjR} {d : Nat} (hR : mjC R d) {a0 : Nat} {a1 : Int32} {hp : mjH} {q : Option Value × mjH} (h : f_266 R a0 a1 hp = some q) : mjM (d + 1) 0 0 266 [.ref a0, .int a1] hp (mjEq q) :=
  mjM_of Ja_266 (Nat.le_of_ble_eq_true rfl) (mjG.fg (lo' := [some (.ref a0), some (.int a1)]) (And.intro rfl (And.intro rfl True.intro)) ((t_266_0 hR (Nat.le_refl 0) (Nat.le_refl 0)) a0 a1 hp q h))
def J_267 : mjI := (⟨"OwnerHeapModel", "readClass", "()V"⟩, 12, prog_14_method_19_code, 3, none, 0, false)
theorem Ja_267 : mjMt 267 = some J_267 := by rfl
theorem D_267_0 : decode J_267.2.2.1 0 = .ok (.bipush 16, 2) := dzq_16 (by decide +kernel)
theorem D_267_2 : decode J_267.2.2.1 2 = .ok (.aload_n 0, 1) := dzq_42 (by decide +kernel)
theorem D_267_3 : decode J_267.2.2.1 3 = .ok (.getfield 356, 3) := dzq_180 (by decide +kernel)
theorem D_267_6 : decode J_267.2.2.1 6 = .ok (.imul, 1) := dzq_104 (by decide +kernel)
theorem D_267_7 : decode J_267.2.2.1 7 = .ok (.aload_n 0, 1) := dzq_42 (by decide +kernel)
theorem D_267_8 : decode J_267.2.2.1 8 = .ok (.getfield 17, 3) := dzq_180 (by decide +kernel)
theorem D_267_11 : decode J_267.2.2.1 11 = .ok (.aload_n 0, 1) := dzq_42 (by decide +kernel)
theorem D_267_12 : decode J_267.2.2.1 12 = .ok (.getfield 356, 3) := dzq_180 (by decide +kernel)
theorem D_267_15 : decode J_267.2.2.1 15 = .ok (.iaload, 1) := dzq_46 (by decide +kernel)
theorem D_267_16 : decode J_267.2.2.1 16 = .ok (.iadd, 1) := dzq_96 (by decide +kernel)
theorem D_267_17 : decode J_267.2.2.1 17 = .ok (.istore_n 1, 1) := dzq_60 (by decide +kernel)
theorem D_267_18 : decode J_267.2.2.1 18 = .ok (.aload_n 0, 1) := dzq_42 (by decide +kernel)
theorem D_267_19 : decode J_267.2.2.1 19 = .ok (.getfield 17, 3) := dzq_180 (by decide +kernel)
theorem D_267_22 : decode J_267.2.2.1 22 = .ok (.aload_n 0, 1) := dzq_42 (by decide +kernel)
theorem D_267_23 : decode J_267.2.2.1 23 = .ok (.getfield 356, 3) := dzq_180 (by decide +kernel)
theorem D_267_26 : decode J_267.2.2.1 26 = .ok (.iaload, 1) := dzq_46 (by decide +kernel)
theorem D_267_27 : decode J_267.2.2.1 27 = .ok (.bipush 16, 2) := dzq_16 (by decide +kernel)
theorem D_267_29 : decode J_267.2.2.1 29 = .ok (.if_icmp .ne 13, 3) := dzq_160 (by decide +kernel)
theorem D_267_32 : decode J_267.2.2.1 32 = .ok (.aload_n 0, 1) := dzq_42 (by decide +kernel)
theorem D_267_33 : decode J_267.2.2.1 33 = .ok (.iconst 3, 1) := dzq_6 (by decide +kernel)
theorem D_267_34 : decode J_267.2.2.1 34 = .ok (.aload_n 0, 1) := dzq_42 (by decide +kernel)
theorem D_267_35 : decode J_267.2.2.1 35 = .ok (.getfield 310, 3) := dzq_180 (by decide +kernel)
theorem D_267_38 : decode J_267.2.2.1 38 = .ok (.invokevirtual 339, 3) := dzq_182 (by decide +kernel)
theorem D_267_41 : decode J_267.2.2.1 41 = .ok (.return_, 1) := dzq_177 (by decide +kernel)
theorem D_267_42 : decode J_267.2.2.1 42 = .ok (.aload_n 0, 1) := dzq_42 (by decide +kernel)
theorem D_267_43 : decode J_267.2.2.1 43 = .ok (.invokevirtual 350, 3) := dzq_182 (by decide +kernel)
theorem D_267_46 : decode J_267.2.2.1 46 = .ok (.aload_n 0, 1) := dzq_42 (by decide +kernel)
theorem D_267_47 : decode J_267.2.2.1 47 = .ok (.getfield 316, 3) := dzq_180 (by decide +kernel)
theorem D_267_50 : decode J_267.2.2.1 50 = .ok (.iconst 1, 1) := dzq_4 (by decide +kernel)
theorem D_267_51 : decode J_267.2.2.1 51 = .ok (.if_icmp .eq 8, 3) := dzq_159 (by decide +kernel)
theorem D_267_54 : decode J_267.2.2.1 54 = .ok (.aload_n 0, 1) := dzq_42 (by decide +kernel)
theorem D_267_55 : decode J_267.2.2.1 55 = .ok (.invokevirtual 347, 3) := dzq_182 (by decide +kernel)
theorem D_267_58 : decode J_267.2.2.1 58 = .ok (.return_, 1) := dzq_177 (by decide +kernel)
theorem D_267_59 : decode J_267.2.2.1 59 = .ok (.aload_n 0, 1) := dzq_42 (by decide +kernel)
theorem D_267_60 : decode J_267.2.2.1 60 = .ok (.iload_n 1, 1) := dzq_27 (by decide +kernel)
theorem D_267_61 : decode J_267.2.2.1 61 = .ok (.putfield 378, 3) := dzq_181 (by decide +kernel)
theorem D_267_64 : decode J_267.2.2.1 64 = .ok (.aload_n 0, 1) := dzq_42 (by decide +kernel)
theorem D_267_65 : decode J_267.2.2.1 65 = .ok (.getfield 17, 3) := dzq_180 (by decide +kernel)
theorem D_267_68 : decode J_267.2.2.1 68 = .ok (.aload_n 0, 1) := dzq_42 (by decide +kernel)
theorem D_267_69 : decode J_267.2.2.1 69 = .ok (.getfield 356, 3) := dzq_180 (by decide +kernel)
theorem D_267_72 : decode J_267.2.2.1 72 = .ok (.dup2, 1) := by decide +kernel
theorem D_267_73 : decode J_267.2.2.1 73 = .ok (.iaload, 1) := dzq_46 (by decide +kernel)
theorem D_267_74 : decode J_267.2.2.1 74 = .ok (.iconst 1, 1) := dzq_4 (by decide +kernel)
theorem D_267_75 : decode J_267.2.2.1 75 = .ok (.iadd, 1) := dzq_96 (by decide +kernel)
theorem D_267_76 : decode J_267.2.2.1 76 = .ok (.iastore, 1) := dzq_79 (by decide +kernel)
theorem D_267_77 : decode J_267.2.2.1 77 = .ok (.aload_n 0, 1) := dzq_42 (by decide +kernel)
theorem D_267_78 : decode J_267.2.2.1 78 = .ok (.getfield 21, 3) := dzq_180 (by decide +kernel)
theorem D_267_81 : decode J_267.2.2.1 81 = .ok (.iload_n 1, 1) := dzq_27 (by decide +kernel)
theorem D_267_82 : decode J_267.2.2.1 82 = .ok (.aload_n 0, 1) := dzq_42 (by decide +kernel)
theorem D_267_83 : decode J_267.2.2.1 83 = .ok (.getfield 322, 3) := dzq_180 (by decide +kernel)
theorem D_267_86 : decode J_267.2.2.1 86 = .ok (.lastore, 1) := by decide +kernel
theorem D_267_87 : decode J_267.2.2.1 87 = .ok (.aload_n 0, 1) := dzq_42 (by decide +kernel)
theorem D_267_88 : decode J_267.2.2.1 88 = .ok (.getfield 24, 3) := dzq_180 (by decide +kernel)
theorem D_267_91 : decode J_267.2.2.1 91 = .ok (.iload_n 1, 1) := dzq_27 (by decide +kernel)
theorem D_267_92 : decode J_267.2.2.1 92 = .ok (.aload_n 0, 1) := dzq_42 (by decide +kernel)
theorem D_267_93 : decode J_267.2.2.1 93 = .ok (.getfield 310, 3) := dzq_180 (by decide +kernel)
theorem D_267_96 : decode J_267.2.2.1 96 = .ok (.iastore, 1) := dzq_79 (by decide +kernel)
theorem D_267_97 : decode J_267.2.2.1 97 = .ok (.aload_n 0, 1) := dzq_42 (by decide +kernel)
theorem D_267_98 : decode J_267.2.2.1 98 = .ok (.getfield 27, 3) := dzq_180 (by decide +kernel)
theorem D_267_101 : decode J_267.2.2.1 101 = .ok (.iload_n 1, 1) := dzq_27 (by decide +kernel)
theorem D_267_102 : decode J_267.2.2.1 102 = .ok (.iconst (-1), 1) := dzq_2 (by decide +kernel)
theorem D_267_103 : decode J_267.2.2.1 103 = .ok (.iastore, 1) := dzq_79 (by decide +kernel)
theorem D_267_104 : decode J_267.2.2.1 104 = .ok (.aload_n 0, 1) := dzq_42 (by decide +kernel)
theorem D_267_105 : decode J_267.2.2.1 105 = .ok (.getfield 33, 3) := dzq_180 (by decide +kernel)
theorem D_267_108 : decode J_267.2.2.1 108 = .ok (.iload_n 1, 1) := dzq_27 (by decide +kernel)
theorem D_267_109 : decode J_267.2.2.1 109 = .ok (.iconst (-1), 1) := dzq_2 (by decide +kernel)
theorem D_267_110 : decode J_267.2.2.1 110 = .ok (.iastore, 1) := dzq_79 (by decide +kernel)
theorem D_267_111 : decode J_267.2.2.1 111 = .ok (.aload_n 0, 1) := dzq_42 (by decide +kernel)
theorem D_267_112 : decode J_267.2.2.1 112 = .ok (.getfield 36, 3) := dzq_180 (by decide +kernel)
theorem D_267_115 : decode J_267.2.2.1 115 = .ok (.iload_n 1, 1) := dzq_27 (by decide +kernel)
theorem D_267_116 : decode J_267.2.2.1 116 = .ok (.iconst 0, 1) := dzq_3 (by decide +kernel)
theorem D_267_117 : decode J_267.2.2.1 117 = .ok (.iastore, 1) := dzq_79 (by decide +kernel)
theorem D_267_118 : decode J_267.2.2.1 118 = .ok (.aload_n 0, 1) := dzq_42 (by decide +kernel)
theorem D_267_119 : decode J_267.2.2.1 119 = .ok (.getfield 30, 3) := dzq_180 (by decide +kernel)
theorem D_267_122 : decode J_267.2.2.1 122 = .ok (.iload_n 1, 1) := dzq_27 (by decide +kernel)
theorem D_267_123 : decode J_267.2.2.1 123 = .ok (.iconst 0, 1) := dzq_3 (by decide +kernel)
theorem D_267_124 : decode J_267.2.2.1 124 = .ok (.iastore, 1) := dzq_79 (by decide +kernel)
theorem D_267_125 : decode J_267.2.2.1 125 = .ok (.aload_n 0, 1) := dzq_42 (by decide +kernel)
theorem D_267_126 : decode J_267.2.2.1 126 = .ok (.getfield 39, 3) := dzq_180 (by decide +kernel)
theorem D_267_129 : decode J_267.2.2.1 129 = .ok (.iload_n 1, 1) := dzq_27 (by decide +kernel)
theorem D_267_130 : decode J_267.2.2.1 130 = .ok (.aload_n 0, 1) := dzq_42 (by decide +kernel)
theorem D_267_131 : decode J_267.2.2.1 131 = .ok (.getfield 79, 3) := dzq_180 (by decide +kernel)
theorem D_267_134 : decode J_267.2.2.1 134 = .ok (.aload_n 0, 1) := dzq_42 (by decide +kernel)
theorem D_267_135 : decode J_267.2.2.1 135 = .ok (.getfield 356, 3) := dzq_180 (by decide +kernel)
theorem D_267_138 : decode J_267.2.2.1 138 = .ok (.iaload, 1) := dzq_46 (by decide +kernel)
theorem D_267_139 : decode J_267.2.2.1 139 = .ok (.iastore, 1) := dzq_79 (by decide +kernel)
theorem D_267_140 : decode J_267.2.2.1 140 = .ok (.aload_n 0, 1) := dzq_42 (by decide +kernel)
theorem D_267_141 : decode J_267.2.2.1 141 = .ok (.getfield 42, 3) := dzq_180 (by decide +kernel)
theorem D_267_144 : decode J_267.2.2.1 144 = .ok (.iload_n 1, 1) := dzq_27 (by decide +kernel)
theorem D_267_145 : decode J_267.2.2.1 145 = .ok (.iconst 0, 1) := dzq_3 (by decide +kernel)
theorem D_267_146 : decode J_267.2.2.1 146 = .ok (.iastore, 1) := dzq_79 (by decide +kernel)
theorem D_267_147 : decode J_267.2.2.1 147 = .ok (.aload_n 0, 1) := dzq_42 (by decide +kernel)
theorem D_267_148 : decode J_267.2.2.1 148 = .ok (.invokevirtual 350, 3) := dzq_182 (by decide +kernel)
theorem D_267_151 : decode J_267.2.2.1 151 = .ok (.aload_n 0, 1) := dzq_42 (by decide +kernel)
theorem D_267_152 : decode J_267.2.2.1 152 = .ok (.bipush 91, 2) := dzq_16 (by decide +kernel)
theorem D_267_154 : decode J_267.2.2.1 154 = .ok (.invokevirtual 381, 3) := dzq_182 (by decide +kernel)
theorem D_267_157 : decode J_267.2.2.1 157 = .ok (.aload_n 0, 1) := dzq_42 (by decide +kernel)
theorem D_267_158 : decode J_267.2.2.1 158 = .ok (.getfield 333, 3) := dzq_180 (by decide +kernel)
theorem D_267_161 : decode J_267.2.2.1 161 = .ok (.ifCond .ne 7, 3) := dzq_154 (by decide +kernel)
theorem D_267_164 : decode J_267.2.2.1 164 = .ok (.iconst 1, 1) := dzq_4 (by decide +kernel)
theorem D_267_165 : decode J_267.2.2.1 165 = .ok (.goto 4, 3) := dzq_167 (by decide +kernel)
theorem D_267_168 : decode J_267.2.2.1 168 = .ok (.iconst 0, 1) := dzq_3 (by decide +kernel)
theorem D_267_169 : decode J_267.2.2.1 169 = .ok (.istore_n 2, 1) := dzq_61 (by decide +kernel)
theorem D_267_170 : decode J_267.2.2.1 170 = .ok (.iload_n 2, 1) := dzq_28 (by decide +kernel)
theorem D_267_171 : decode J_267.2.2.1 171 = .ok (.ifCond .eq 115, 3) := dzq_153 (by decide +kernel)
theorem D_267_174 : decode J_267.2.2.1 174 = .ok (.aload_n 0, 1) := dzq_42 (by decide +kernel)
theorem D_267_175 : decode J_267.2.2.1 175 = .ok (.getfield 316, 3) := dzq_180 (by decide +kernel)
theorem D_267_178 : decode J_267.2.2.1 178 = .ok (.iconst 2, 1) := dzq_5 (by decide +kernel)
theorem D_267_179 : decode J_267.2.2.1 179 = .ok (.if_icmp .eq 10, 3) := dzq_159 (by decide +kernel)
theorem D_267_182 : decode J_267.2.2.1 182 = .ok (.aload_n 0, 1) := dzq_42 (by decide +kernel)
theorem D_267_183 : decode J_267.2.2.1 183 = .ok (.invokevirtual 347, 3) := dzq_182 (by decide +kernel)
theorem D_267_186 : decode J_267.2.2.1 186 = .ok (.goto 22, 3) := dzq_167 (by decide +kernel)
theorem D_267_189 : decode J_267.2.2.1 189 = .ok (.aload_n 0, 1) := dzq_42 (by decide +kernel)
theorem D_267_190 : decode J_267.2.2.1 190 = .ok (.getfield 30, 3) := dzq_180 (by decide +kernel)
theorem D_267_193 : decode J_267.2.2.1 193 = .ok (.iload_n 1, 1) := dzq_27 (by decide +kernel)
theorem D_267_194 : decode J_267.2.2.1 194 = .ok (.iaload, 1) := dzq_46 (by decide +kernel)
theorem D_267_195 : decode J_267.2.2.1 195 = .ok (.iconst 5, 1) := dzq_8 (by decide +kernel)
theorem D_267_196 : decode J_267.2.2.1 196 = .ok (.if_icmp .ne 12, 3) := dzq_160 (by decide +kernel)
theorem D_267_199 : decode J_267.2.2.1 199 = .ok (.aload_n 0, 1) := dzq_42 (by decide +kernel)
theorem D_267_200 : decode J_267.2.2.1 200 = .ok (.iconst 3, 1) := dzq_6 (by decide +kernel)
theorem D_267_201 : decode J_267.2.2.1 201 = .ok (.aload_n 0, 1) := dzq_42 (by decide +kernel)
theorem D_267_202 : decode J_267.2.2.1 202 = .ok (.getfield 310, 3) := dzq_180 (by decide +kernel)
theorem D_267_205 : decode J_267.2.2.1 205 = .ok (.invokevirtual 339, 3) := dzq_182 (by decide +kernel)
theorem D_267_208 : decode J_267.2.2.1 208 = .ok (.aload_n 0, 1) := dzq_42 (by decide +kernel)
theorem D_267_209 : decode J_267.2.2.1 209 = .ok (.getfield 333, 3) := dzq_180 (by decide +kernel)
theorem D_267_212 : decode J_267.2.2.1 212 = .ok (.ifCond .le 4, 3) := dzq_158 (by decide +kernel)
theorem D_267_215 : decode J_267.2.2.1 215 = .ok (.return_, 1) := dzq_177 (by decide +kernel)
theorem D_267_216 : decode J_267.2.2.1 216 = .ok (.aload_n 0, 1) := dzq_42 (by decide +kernel)
theorem D_267_217 : decode J_267.2.2.1 217 = .ok (.getfield 51, 3) := dzq_180 (by decide +kernel)
theorem D_267_220 : decode J_267.2.2.1 220 = .ok (.iconst 5, 1) := dzq_8 (by decide +kernel)
theorem D_267_221 : decode J_267.2.2.1 221 = .ok (.iload_n 1, 1) := dzq_27 (by decide +kernel)
theorem D_267_222 : decode J_267.2.2.1 222 = .ok (.imul, 1) := dzq_104 (by decide +kernel)
theorem D_267_223 : decode J_267.2.2.1 223 = .ok (.aload_n 0, 1) := dzq_42 (by decide +kernel)
theorem D_267_224 : decode J_267.2.2.1 224 = .ok (.getfield 30, 3) := dzq_180 (by decide +kernel)
theorem D_267_227 : decode J_267.2.2.1 227 = .ok (.iload_n 1, 1) := dzq_27 (by decide +kernel)
theorem D_267_228 : decode J_267.2.2.1 228 = .ok (.iaload, 1) := dzq_46 (by decide +kernel)
theorem D_267_229 : decode J_267.2.2.1 229 = .ok (.iadd, 1) := dzq_96 (by decide +kernel)
theorem D_267_230 : decode J_267.2.2.1 230 = .ok (.aload_n 0, 1) := dzq_42 (by decide +kernel)
theorem D_267_231 : decode J_267.2.2.1 231 = .ok (.getfield 322, 3) := dzq_180 (by decide +kernel)
theorem D_267_234 : decode J_267.2.2.1 234 = .ok (.lastore, 1) := by decide +kernel
theorem D_267_235 : decode J_267.2.2.1 235 = .ok (.aload_n 0, 1) := dzq_42 (by decide +kernel)
theorem D_267_236 : decode J_267.2.2.1 236 = .ok (.getfield 54, 3) := dzq_180 (by decide +kernel)
theorem D_267_239 : decode J_267.2.2.1 239 = .ok (.iconst 5, 1) := dzq_8 (by decide +kernel)
theorem D_267_240 : decode J_267.2.2.1 240 = .ok (.iload_n 1, 1) := dzq_27 (by decide +kernel)
theorem D_267_241 : decode J_267.2.2.1 241 = .ok (.imul, 1) := dzq_104 (by decide +kernel)
theorem D_267_242 : decode J_267.2.2.1 242 = .ok (.aload_n 0, 1) := dzq_42 (by decide +kernel)
theorem D_267_243 : decode J_267.2.2.1 243 = .ok (.getfield 30, 3) := dzq_180 (by decide +kernel)
theorem D_267_246 : decode J_267.2.2.1 246 = .ok (.iload_n 1, 1) := dzq_27 (by decide +kernel)
theorem D_267_247 : decode J_267.2.2.1 247 = .ok (.iaload, 1) := dzq_46 (by decide +kernel)
theorem D_267_248 : decode J_267.2.2.1 248 = .ok (.iadd, 1) := dzq_96 (by decide +kernel)
theorem D_267_249 : decode J_267.2.2.1 249 = .ok (.aload_n 0, 1) := dzq_42 (by decide +kernel)
theorem D_267_250 : decode J_267.2.2.1 250 = .ok (.getfield 310, 3) := dzq_180 (by decide +kernel)
theorem D_267_253 : decode J_267.2.2.1 253 = .ok (.iastore, 1) := dzq_79 (by decide +kernel)
theorem D_267_254 : decode J_267.2.2.1 254 = .ok (.aload_n 0, 1) := dzq_42 (by decide +kernel)
theorem D_267_255 : decode J_267.2.2.1 255 = .ok (.getfield 30, 3) := dzq_180 (by decide +kernel)
theorem D_267_258 : decode J_267.2.2.1 258 = .ok (.iload_n 1, 1) := dzq_27 (by decide +kernel)
theorem D_267_259 : decode J_267.2.2.1 259 = .ok (.dup2, 1) := by decide +kernel
theorem D_267_260 : decode J_267.2.2.1 260 = .ok (.iaload, 1) := dzq_46 (by decide +kernel)
theorem D_267_261 : decode J_267.2.2.1 261 = .ok (.iconst 1, 1) := dzq_4 (by decide +kernel)
theorem D_267_262 : decode J_267.2.2.1 262 = .ok (.iadd, 1) := dzq_96 (by decide +kernel)
theorem D_267_263 : decode J_267.2.2.1 263 = .ok (.iastore, 1) := dzq_79 (by decide +kernel)
theorem D_267_264 : decode J_267.2.2.1 264 = .ok (.aload_n 0, 1) := dzq_42 (by decide +kernel)
theorem D_267_265 : decode J_267.2.2.1 265 = .ok (.invokevirtual 350, 3) := dzq_182 (by decide +kernel)
theorem D_267_268 : decode J_267.2.2.1 268 = .ok (.aload_n 0, 1) := dzq_42 (by decide +kernel)
theorem D_267_269 : decode J_267.2.2.1 269 = .ok (.bipush 44, 2) := dzq_16 (by decide +kernel)
theorem D_267_271 : decode J_267.2.2.1 271 = .ok (.invokevirtual 343, 3) := dzq_182 (by decide +kernel)
theorem D_267_274 : decode J_267.2.2.1 274 = .ok (.istore_n 2, 1) := dzq_61 (by decide +kernel)
theorem D_267_275 : decode J_267.2.2.1 275 = .ok (.iload_n 2, 1) := dzq_28 (by decide +kernel)
theorem D_267_276 : decode J_267.2.2.1 276 = .ok (.ifCond .eq (-106), 3) := dzq_153 (by decide +kernel)
theorem D_267_279 : decode J_267.2.2.1 279 = .ok (.aload_n 0, 1) := dzq_42 (by decide +kernel)
theorem D_267_280 : decode J_267.2.2.1 280 = .ok (.invokevirtual 350, 3) := dzq_182 (by decide +kernel)
theorem D_267_283 : decode J_267.2.2.1 283 = .ok (.goto (-113), 3) := dzq_167 (by decide +kernel)
theorem D_267_286 : decode J_267.2.2.1 286 = .ok (.aload_n 0, 1) := dzq_42 (by decide +kernel)
theorem D_267_287 : decode J_267.2.2.1 287 = .ok (.getfield 333, 3) := dzq_180 (by decide +kernel)
theorem D_267_290 : decode J_267.2.2.1 290 = .ok (.ifCond .ne 9, 3) := dzq_154 (by decide +kernel)
theorem D_267_293 : decode J_267.2.2.1 293 = .ok (.aload_n 0, 1) := dzq_42 (by decide +kernel)
theorem D_267_294 : decode J_267.2.2.1 294 = .ok (.bipush 93, 2) := dzq_16 (by decide +kernel)
theorem D_267_296 : decode J_267.2.2.1 296 = .ok (.invokevirtual 381, 3) := dzq_182 (by decide +kernel)
theorem D_267_299 : decode J_267.2.2.1 299 = .ok (.aload_n 0, 1) := dzq_42 (by decide +kernel)
theorem D_267_300 : decode J_267.2.2.1 300 = .ok (.getfield 333, 3) := dzq_180 (by decide +kernel)
theorem D_267_303 : decode J_267.2.2.1 303 = .ok (.ifCond .ne 35, 3) := dzq_154 (by decide +kernel)
theorem D_267_306 : decode J_267.2.2.1 306 = .ok (.aload_n 0, 1) := dzq_42 (by decide +kernel)
theorem D_267_307 : decode J_267.2.2.1 307 = .ok (.iconst 2, 1) := dzq_5 (by decide +kernel)
theorem D_267_308 : decode J_267.2.2.1 308 = .ok (.invokevirtual 363, 3) := dzq_182 (by decide +kernel)
theorem D_267_311 : decode J_267.2.2.1 311 = .ok (.ifCond .eq 27, 3) := dzq_153 (by decide +kernel)
theorem D_267_314 : decode J_267.2.2.1 314 = .ok (.aload_n 0, 1) := dzq_42 (by decide +kernel)
theorem D_267_315 : decode J_267.2.2.1 315 = .ok (.getfield 27, 3) := dzq_180 (by decide +kernel)
theorem D_267_318 : decode J_267.2.2.1 318 = .ok (.iload_n 1, 1) := dzq_27 (by decide +kernel)
theorem D_267_319 : decode J_267.2.2.1 319 = .ok (.aload_n 0, 1) := dzq_42 (by decide +kernel)
theorem D_267_320 : decode J_267.2.2.1 320 = .ok (.getfield 310, 3) := dzq_180 (by decide +kernel)
theorem D_267_323 : decode J_267.2.2.1 323 = .ok (.iastore, 1) := dzq_79 (by decide +kernel)
theorem D_267_324 : decode J_267.2.2.1 324 = .ok (.aload_n 0, 1) := dzq_42 (by decide +kernel)
theorem D_267_325 : decode J_267.2.2.1 325 = .ok (.invokevirtual 350, 3) := dzq_182 (by decide +kernel)
theorem D_267_328 : decode J_267.2.2.1 328 = .ok (.aload_n 0, 1) := dzq_42 (by decide +kernel)
theorem D_267_329 : decode J_267.2.2.1 329 = .ok (.getfield 33, 3) := dzq_180 (by decide +kernel)
theorem D_267_332 : decode J_267.2.2.1 332 = .ok (.iload_n 1, 1) := dzq_27 (by decide +kernel)
theorem D_267_333 : decode J_267.2.2.1 333 = .ok (.aload_n 0, 1) := dzq_42 (by decide +kernel)
theorem D_267_334 : decode J_267.2.2.1 334 = .ok (.invokevirtual 384, 3) := dzq_182 (by decide +kernel)
theorem D_267_337 : decode J_267.2.2.1 337 = .ok (.iastore, 1) := dzq_79 (by decide +kernel)
theorem D_267_338 : decode J_267.2.2.1 338 = .ok (.aload_n 0, 1) := dzq_42 (by decide +kernel)
theorem D_267_339 : decode J_267.2.2.1 339 = .ok (.getfield 333, 3) := dzq_180 (by decide +kernel)
theorem D_267_342 : decode J_267.2.2.1 342 = .ok (.ifCond .ne 16, 3) := dzq_154 (by decide +kernel)
theorem D_267_345 : decode J_267.2.2.1 345 = .ok (.aload_n 0, 1) := dzq_42 (by decide +kernel)
theorem D_267_346 : decode J_267.2.2.1 346 = .ok (.iconst 3, 1) := dzq_6 (by decide +kernel)
theorem D_267_347 : decode J_267.2.2.1 347 = .ok (.invokevirtual 363, 3) := dzq_182 (by decide +kernel)
theorem D_267_350 : decode J_267.2.2.1 350 = .ok (.ifCond .eq 8, 3) := dzq_153 (by decide +kernel)
theorem D_267_353 : decode J_267.2.2.1 353 = .ok (.aload_n 0, 1) := dzq_42 (by decide +kernel)
theorem D_267_354 : decode J_267.2.2.1 354 = .ok (.iload_n 1, 1) := dzq_27 (by decide +kernel)
theorem D_267_355 : decode J_267.2.2.1 355 = .ok (.invokevirtual 388, 3) := dzq_182 (by decide +kernel)
theorem D_267_358 : decode J_267.2.2.1 358 = .ok (.aload_n 0, 1) := dzq_42 (by decide +kernel)
theorem D_267_359 : decode J_267.2.2.1 359 = .ok (.getfield 333, 3) := dzq_180 (by decide +kernel)
theorem D_267_362 : decode J_267.2.2.1 362 = .ok (.ifCond .ne 9, 3) := dzq_154 (by decide +kernel)
theorem D_267_365 : decode J_267.2.2.1 365 = .ok (.aload_n 0, 1) := dzq_42 (by decide +kernel)
theorem D_267_366 : decode J_267.2.2.1 366 = .ok (.bipush 123, 2) := dzq_16 (by decide +kernel)
theorem D_267_368 : decode J_267.2.2.1 368 = .ok (.invokevirtual 391, 3) := dzq_182 (by decide +kernel)
theorem D_267_371 : decode J_267.2.2.1 371 = .ok (.aload_n 0, 1) := dzq_42 (by decide +kernel)
theorem D_267_372 : decode J_267.2.2.1 372 = .ok (.getfield 333, 3) := dzq_180 (by decide +kernel)
theorem D_267_375 : decode J_267.2.2.1 375 = .ok (.ifCond .ne 20, 3) := dzq_154 (by decide +kernel)
theorem D_267_378 : decode J_267.2.2.1 378 = .ok (.aload_n 0, 1) := dzq_42 (by decide +kernel)
theorem D_267_379 : decode J_267.2.2.1 379 = .ok (.bipush 125, 2) := dzq_16 (by decide +kernel)
theorem D_267_381 : decode J_267.2.2.1 381 = .ok (.invokevirtual 343, 3) := dzq_182 (by decide +kernel)
theorem D_267_384 : decode J_267.2.2.1 384 = .ok (.ifCond .ne 11, 3) := dzq_154 (by decide +kernel)
theorem D_267_387 : decode J_267.2.2.1 387 = .ok (.aload_n 0, 1) := dzq_42 (by decide +kernel)
theorem D_267_388 : decode J_267.2.2.1 388 = .ok (.iload_n 1, 1) := dzq_27 (by decide +kernel)
theorem D_267_389 : decode J_267.2.2.1 389 = .ok (.invokevirtual 394, 3) := dzq_182 (by decide +kernel)
theorem D_267_392 : decode J_267.2.2.1 392 = .ok (.goto (-21), 3) := dzq_167 (by decide +kernel)
theorem D_267_395 : decode J_267.2.2.1 395 = .ok (.aload_n 0, 1) := dzq_42 (by decide +kernel)
theorem D_267_396 : decode J_267.2.2.1 396 = .ok (.getfield 333, 3) := dzq_180 (by decide +kernel)
theorem D_267_399 : decode J_267.2.2.1 399 = .ok (.ifCond .ne 9, 3) := dzq_154 (by decide +kernel)
theorem D_267_402 : decode J_267.2.2.1 402 = .ok (.aload_n 0, 1) := dzq_42 (by decide +kernel)
theorem D_267_403 : decode J_267.2.2.1 403 = .ok (.bipush 125, 2) := dzq_16 (by decide +kernel)
theorem D_267_405 : decode J_267.2.2.1 405 = .ok (.invokevirtual 397, 3) := dzq_182 (by decide +kernel)
theorem D_267_408 : decode J_267.2.2.1 408 = .ok (.return_, 1) := dzq_177 (by decide +kernel)
def P_267_395 (X : mjX) (d C S kc ks : Nat) (k : Nat → mjH → mjU) : Prop := ∀ (l0 : Nat) (hp : mjH) (q : Option Value × mjH), k l0 hp = some q → mjG X d C S J_267 (mjEq q) 395 [some (.ref l0), none, none] [] hp kc ks
def P_267_371 (X : mjX) (d C S kc ks : Nat) (k : Nat → Int32 → mjH → mjU) : Prop := ∀ (l0 : Nat) (l1 : Int32) (hp : mjH) (q : Option Value × mjH), k l0 l1 hp = some q → mjG X d C S J_267 (mjEq q) 371 [some (.ref l0), some (.int l1), none] [] hp kc ks
def P_267_358 (X : mjX) (d C S kc ks : Nat) (k : Nat → Int32 → mjH → mjU) : Prop := ∀ (l0 : Nat) (l1 : Int32) (hp : mjH) (q : Option Value × mjH), k l0 l1 hp = some q → mjG X d C S J_267 (mjEq q) 358 [some (.ref l0), some (.int l1), none] [] hp kc ks
def P_267_338 (X : mjX) (d C S kc ks : Nat) (k : Nat → Int32 → mjH → mjU) : Prop := ∀ (l0 : Nat) (l1 : Int32) (hp : mjH) (q : Option Value × mjH), k l0 l1 hp = some q → mjG X d C S J_267 (mjEq q) 338 [some (.ref l0), some (.int l1), none] [] hp kc ks
def P_267_299 (X : mjX) (d C S kc ks : Nat) (k : Nat → Int32 → mjH → mjU) : Prop := ∀ (l0 : Nat) (l1 : Int32) (hp : mjH) (q : Option Value × mjH), k l0 l1 hp = some q → mjG X d C S J_267 (mjEq q) 299 [some (.ref l0), some (.int l1), none] [] hp kc ks
def P_267_208 (X : mjX) (d C S kc ks : Nat) (k : Nat → Int32 → mjH → mjU) : Prop := ∀ (l0 : Nat) (l1 : Int32) (hp : mjH) (q : Option Value × mjH), k l0 l1 hp = some q → mjG X d C S J_267 (mjEq q) 208 [some (.ref l0), some (.int l1), none] [] hp kc ks
def P_267_170 (X : mjX) (d C S kc ks : Nat) (k : Nat → Int32 → Int32 → mjH → mjU) : Prop := ∀ (l0 : Nat) (l1 : Int32) (l2 : Int32) (hp : mjH) (q : Option Value × mjH), k l0 l1 l2 hp = some q → mjG X d C S J_267 (mjEq q) 170 [some (.ref l0), some (.int l1), some (.int l2)] [] hp kc ks
def P_267_169 (X : mjX) (d C S kc ks : Nat) (k : Nat → Int32 → Int32 → mjH → mjU) : Prop := ∀ (l0 : Nat) (l1 : Int32) (s0 : Int32) (hp : mjH) (q : Option Value × mjH), k l0 l1 s0 hp = some q → mjG X d C S J_267 (mjEq q) 169 [some (.ref l0), some (.int l1), none] [.int s0] hp kc ks
def P_267_0 (X : mjX) (d C S kc ks : Nat) (k : Nat → mjH → mjU) : Prop := ∀ (l0 : Nat) (hp : mjH) (q : Option Value × mjH), k l0 hp = some q → mjG X d C S J_267 (mjEq q) 0 [some (.ref l0), none, none] [] hp kc ks
noncomputable def b_267_395 (R : mjR) (l0 : Nat) (hp : mjH) : mjU := gI hp l0 12 61 (fun v1 => (if v1 = 0 then rV hp l0 12 (bN (R 278 [.ref l0, .int (125 : Int32)] hp) (fun  hp2 => some (none, hp2))) else some (none, hp)))
theorem t_267_395 {X : mjX} {d C S kc ks : Nat} {R : mjR} (hR : mjC R d) (h1 : kc ≤ C) (h2 : ks ≤ S) : P_267_395 X (d + 1) C S kc ks (b_267_395 R) := by
  intro l0 hp q h
  unfold b_267_395 at h
  refine mjr_aload_n (x := l0) D_267_395 rfl ?_
  refine mjq_gI D_267_396 fr_12_333 h (fun v1 h => ?_)
  refine mjq_if_ne (tgt := 408) D_267_399 rfl h (fun h => ?_) (fun h => ?_)
  · exact mjq_nret D_267_408 rfl h1 h2 h
  · refine mjr_aload_n (x := l0) D_267_402 rfl ?_
    refine mjq_bi (v := (125 : Int32)) D_267_403 rfl ?_
    refine mjq_vN (As := [.int (125 : Int32)]) (rest := []) D_267_405 mr_12_397 V_278 rfl rfl rfl hR (Nat.le_refl _) h1 h2 h (fun  hp2 h => ?_)
    exact mjq_nret D_267_408 rfl h1 h2 h
noncomputable def b_267_371 (R : mjR) (k371 : Nat → Int32 → mjH → mjU) (l0 : Nat) (l1 : Int32) (hp : mjH) : mjU := gI hp l0 12 61 (fun v1 => (if v1 = 0 then rV hp l0 12 (bI (R 271 [.ref l0, .int (125 : Int32)] hp) (fun v2 hp3 => (if v2 = 0 then rV hp3 l0 12 (bN (R 275 [.ref l0, .int l1] hp3) (fun  hp4 => k371 l0 l1 hp4)) else b_267_395 R l0 hp3))) else b_267_395 R l0 hp))
theorem t_267_371 {X : mjX} {d C S kc ks : Nat} {R : mjR} (hR : mjC R d) (h1 : kc ≤ C) (h2 : ks ≤ S) {k371 : Nat → Int32 → mjH → mjU} (hk371 : P_267_371 X (d + 1) C S kc ks k371) : P_267_371 X (d + 1) C S kc ks (b_267_371 R k371) := by
  intro l0 l1 hp q h
  unfold b_267_371 at h
  refine mjr_aload_n (x := l0) D_267_371 rfl ?_
  refine mjq_gI D_267_372 fr_12_333 h (fun v1 h => ?_)
  refine mjq_if_ne (tgt := 395) D_267_375 rfl h (fun h => ?_) (fun h => ?_)
  · exact mjG.fg (lo' := [some (.ref l0), none, none]) (And.intro rfl True.intro) ((t_267_395 hR h1 h2) _ _ _ h)
  · refine mjr_aload_n (x := l0) D_267_378 rfl ?_
    refine mjq_bi (v := (125 : Int32)) D_267_379 rfl ?_
    refine mjq_vI (As := [.int (125 : Int32)]) (rest := []) D_267_381 mr_12_343 V_271 rfl rfl rfl hR (Nat.le_refl _) h1 h2 h (fun v2 hp3 h => ?_)
    refine mjq_if_ne (tgt := 395) D_267_384 rfl h (fun h => ?_) (fun h => ?_)
    · exact mjG.fg (lo' := [some (.ref l0), none, none]) (And.intro rfl True.intro) ((t_267_395 hR h1 h2) _ _ _ h)
    · refine mjr_aload_n (x := l0) D_267_387 rfl ?_
      refine mjr_iload_n (x := l1) D_267_388 rfl ?_
      refine mjq_vN (As := [.int l1]) (rest := []) D_267_389 mr_12_394 V_275 rfl rfl rfl hR (Nat.le_refl _) h1 h2 h (fun  hp4 h => ?_)
      refine mjr_goto (tgt := 371) D_267_392 rfl ?_
      exact hk371 _ _ _ _ h
noncomputable def L_267_371 (R : mjR) (n : Nat) : Nat → Int32 → mjH → mjU := Nat.rec (motive := fun _ => Nat → Int32 → mjH → mjU) (fun _ _ _ => none) (fun _ self => b_267_371 R self) n
theorem T_267_371 {X : mjX} {d C S kc ks : Nat} {R : mjR} (hR : mjC R d) (h1 : kc ≤ C) (h2 : ks ≤ S) (n : Nat) : P_267_371 X (d + 1) C S kc ks (L_267_371 R n) := by
  induction n with
  | zero => intro _ _ _ _ h; exact mj_no h
  | succ n ih => exact t_267_371 hR h1 h2 ih
noncomputable def b_267_358 (R : mjR) (l0 : Nat) (l1 : Int32) (hp : mjH) : mjU := gI hp l0 12 61 (fun v1 => (if v1 = 0 then rV hp l0 12 (bN (R 274 [.ref l0, .int (123 : Int32)] hp) (fun  hp2 => L_267_371 R mjN l0 l1 hp2)) else L_267_371 R mjN l0 l1 hp))
theorem t_267_358 {X : mjX} {d C S kc ks : Nat} {R : mjR} (hR : mjC R d) (h1 : kc ≤ C) (h2 : ks ≤ S) : P_267_358 X (d + 1) C S kc ks (b_267_358 R) := by
  intro l0 l1 hp q h
  unfold b_267_358 at h
  refine mjr_aload_n (x := l0) D_267_358 rfl ?_
  refine mjq_gI D_267_359 fr_12_333 h (fun v1 h => ?_)
  refine mjq_if_ne (tgt := 371) D_267_362 rfl h (fun h => ?_) (fun h => ?_)
  · exact (T_267_371 hR h1 h2 mjN) _ _ _ _ h
  · refine mjr_aload_n (x := l0) D_267_365 rfl ?_
    refine mjq_bi (v := (123 : Int32)) D_267_366 rfl ?_
    refine mjq_vN (As := [.int (123 : Int32)]) (rest := []) D_267_368 mr_12_391 V_274 rfl rfl rfl hR (Nat.le_refl _) h1 h2 h (fun  hp2 h => ?_)
    exact (T_267_371 hR h1 h2 mjN) _ _ _ _ h
noncomputable def b_267_338 (R : mjR) (l0 : Nat) (l1 : Int32) (hp : mjH) : mjU := gI hp l0 12 61 (fun v1 => (if v1 = 0 then rV hp l0 12 (bI (R 266 [.ref l0, .int (3 : Int32)] hp) (fun v2 hp3 => (if v2 = 0 then b_267_358 R l0 l1 hp3 else rV hp3 l0 12 (bN (R 273 [.ref l0, .int l1] hp3) (fun  hp4 => b_267_358 R l0 l1 hp4))))) else b_267_358 R l0 l1 hp))
theorem t_267_338 {X : mjX} {d C S kc ks : Nat} {R : mjR} (hR : mjC R d) (h1 : kc ≤ C) (h2 : ks ≤ S) : P_267_338 X (d + 1) C S kc ks (b_267_338 R) := by
  intro l0 l1 hp q h
  unfold b_267_338 at h
  refine mjr_aload_n (x := l0) D_267_338 rfl ?_
  refine mjq_gI D_267_339 fr_12_333 h (fun v1 h => ?_)
  refine mjq_if_ne (tgt := 358) D_267_342 rfl h (fun h => ?_) (fun h => ?_)
  · exact (t_267_358 hR h1 h2) _ _ _ _ h
  · refine mjr_aload_n (x := l0) D_267_345 rfl ?_
    refine mjq_ic (v := (3 : Int32)) D_267_346 rfl ?_
    refine mjq_vI (As := [.int (3 : Int32)]) (rest := []) D_267_347 mr_12_363 V_266 rfl rfl rfl hR (Nat.le_refl _) h1 h2 h (fun v2 hp3 h => ?_)
    refine mjq_if_eq (tgt := 358) D_267_350 rfl h (fun h => ?_) (fun h => ?_)
    · exact (t_267_358 hR h1 h2) _ _ _ _ h
    · refine mjr_aload_n (x := l0) D_267_353 rfl ?_
      refine mjr_iload_n (x := l1) D_267_354 rfl ?_
      refine mjq_vN (As := [.int l1]) (rest := []) D_267_355 mr_12_388 V_273 rfl rfl rfl hR (Nat.le_refl _) h1 h2 h (fun  hp4 h => ?_)
      exact (t_267_358 hR h1 h2) _ _ _ _ h
noncomputable def b_267_299 (R : mjR) (l0 : Nat) (l1 : Int32) (hp : mjH) : mjU := gI hp l0 12 61 (fun v1 => (if v1 = 0 then rV hp l0 12 (bI (R 266 [.ref l0, .int (2 : Int32)] hp) (fun v2 hp3 => (if v2 = 0 then b_267_338 R l0 l1 hp3 else gR hp3 l0 12 14 (fun v4 => gI hp3 l0 12 4 (fun v5 => sI hp3 v4 l1 v5 (fun hp6 => rV hp6 l0 12 (bN (R 262 [.ref l0] hp6) (fun  hp7 => gR hp7 l0 12 16 (fun v8 => rV hp7 l0 12 (bI (R 272 [.ref l0] hp7) (fun v9 hp10 => sI hp10 v8 l1 v9 (fun hp11 => b_267_338 R l0 l1 hp11)))))))))))) else b_267_338 R l0 l1 hp))
theorem t_267_299 {X : mjX} {d C S kc ks : Nat} {R : mjR} (hR : mjC R d) (h1 : kc ≤ C) (h2 : ks ≤ S) : P_267_299 X (d + 1) C S kc ks (b_267_299 R) := by
  intro l0 l1 hp q h
  unfold b_267_299 at h
  refine mjr_aload_n (x := l0) D_267_299 rfl ?_
  refine mjq_gI D_267_300 fr_12_333 h (fun v1 h => ?_)
  refine mjq_if_ne (tgt := 338) D_267_303 rfl h (fun h => ?_) (fun h => ?_)
  · exact (t_267_338 hR h1 h2) _ _ _ _ h
  · refine mjr_aload_n (x := l0) D_267_306 rfl ?_
    refine mjq_ic (v := (2 : Int32)) D_267_307 rfl ?_
    refine mjq_vI (As := [.int (2 : Int32)]) (rest := []) D_267_308 mr_12_363 V_266 rfl rfl rfl hR (Nat.le_refl _) h1 h2 h (fun v2 hp3 h => ?_)
    refine mjq_if_eq (tgt := 338) D_267_311 rfl h (fun h => ?_) (fun h => ?_)
    · exact (t_267_338 hR h1 h2) _ _ _ _ h
    · refine mjr_aload_n (x := l0) D_267_314 rfl ?_
      refine mjq_gR D_267_315 fr_12_27 h (fun v4 h => ?_)
      refine mjr_iload_n (x := l1) D_267_318 rfl ?_
      refine mjr_aload_n (x := l0) D_267_319 rfl ?_
      refine mjq_gI D_267_320 fr_12_310 h (fun v5 h => ?_)
      refine mjq_sI D_267_323 h (fun hp6 h => ?_)
      refine mjr_aload_n (x := l0) D_267_324 rfl ?_
      refine mjq_vN (As := []) (rest := []) D_267_325 mr_12_350 V_262 rfl rfl rfl hR (Nat.le_refl _) h1 h2 h (fun  hp7 h => ?_)
      refine mjr_aload_n (x := l0) D_267_328 rfl ?_
      refine mjq_gR D_267_329 fr_12_33 h (fun v8 h => ?_)
      refine mjr_iload_n (x := l1) D_267_332 rfl ?_
      refine mjr_aload_n (x := l0) D_267_333 rfl ?_
      refine mjq_vI (As := []) (rest := [.int l1, .ref v8]) D_267_334 mr_12_384 V_272 rfl rfl rfl hR (Nat.le_refl _) h1 h2 h (fun v9 hp10 h => ?_)
      refine mjq_sI D_267_337 h (fun hp11 h => ?_)
      exact (t_267_338 hR h1 h2) _ _ _ _ h
noncomputable def b_267_208 (R : mjR) (k170 : Nat → Int32 → Int32 → mjH → mjU) (l0 : Nat) (l1 : Int32) (hp : mjH) : mjU := gI hp l0 12 61 (fun v1 => (if v1 ≤ 0 then gR hp l0 12 22 (fun v2 => gR hp l0 12 15 (fun v3 => aI hp v3 l1 (fun v4 => gL hp l0 12 7 (fun v5 => sL hp v2 (((5 : Int32) * l1) + v4) v5 (fun hp6 => gR hp6 l0 12 23 (fun v7 => gR hp6 l0 12 15 (fun v8 => aI hp6 v8 l1 (fun v9 => gI hp6 l0 12 4 (fun v10 => sI hp6 v7 (((5 : Int32) * l1) + v9) v10 (fun hp11 => gR hp11 l0 12 15 (fun v12 => aI hp11 v12 l1 (fun v13 => sI hp11 v12 l1 (v13 + (1 : Int32)) (fun hp14 => rV hp14 l0 12 (bN (R 262 [.ref l0] hp14) (fun  hp15 => rV hp15 l0 12 (bI (R 271 [.ref l0, .int (44 : Int32)] hp15) (fun v16 hp17 => (if v16 = 0 then k170 l0 l1 v16 hp17 else rV hp17 l0 12 (bN (R 262 [.ref l0] hp17) (fun  hp18 => k170 l0 l1 v16 hp18)))))))))))))))))))) else some (none, hp)))
theorem t_267_208 {X : mjX} {d C S kc ks : Nat} {R : mjR} (hR : mjC R d) (h1 : kc ≤ C) (h2 : ks ≤ S) {k170 : Nat → Int32 → Int32 → mjH → mjU} (hk170 : P_267_170 X (d + 1) C S kc ks k170) : P_267_208 X (d + 1) C S kc ks (b_267_208 R k170) := by
  intro l0 l1 hp q h
  unfold b_267_208 at h
  refine mjr_aload_n (x := l0) D_267_208 rfl ?_
  refine mjq_gI D_267_209 fr_12_333 h (fun v1 h => ?_)
  refine mjq_if_le (tgt := 216) D_267_212 rfl h (fun h => ?_) (fun h => ?_)
  · refine mjr_aload_n (x := l0) D_267_216 rfl ?_
    refine mjq_gR D_267_217 fr_12_51 h (fun v2 h => ?_)
    refine mjq_ic (v := (5 : Int32)) D_267_220 rfl ?_
    refine mjr_iload_n (x := l1) D_267_221 rfl ?_
    refine mjr_imul D_267_222 ?_
    refine mjr_aload_n (x := l0) D_267_223 rfl ?_
    refine mjq_gR D_267_224 fr_12_30 h (fun v3 h => ?_)
    refine mjr_iload_n (x := l1) D_267_227 rfl ?_
    refine mjq_aI D_267_228 h (fun v4 h => ?_)
    refine mjr_iadd D_267_229 ?_
    refine mjr_aload_n (x := l0) D_267_230 rfl ?_
    refine mjq_gL D_267_231 fr_12_322 h (fun v5 h => ?_)
    refine mjq_sL D_267_234 h (fun hp6 h => ?_)
    refine mjr_aload_n (x := l0) D_267_235 rfl ?_
    refine mjq_gR D_267_236 fr_12_54 h (fun v7 h => ?_)
    refine mjq_ic (v := (5 : Int32)) D_267_239 rfl ?_
    refine mjr_iload_n (x := l1) D_267_240 rfl ?_
    refine mjr_imul D_267_241 ?_
    refine mjr_aload_n (x := l0) D_267_242 rfl ?_
    refine mjq_gR D_267_243 fr_12_30 h (fun v8 h => ?_)
    refine mjr_iload_n (x := l1) D_267_246 rfl ?_
    refine mjq_aI D_267_247 h (fun v9 h => ?_)
    refine mjr_iadd D_267_248 ?_
    refine mjr_aload_n (x := l0) D_267_249 rfl ?_
    refine mjq_gI D_267_250 fr_12_310 h (fun v10 h => ?_)
    refine mjq_sI D_267_253 h (fun hp11 h => ?_)
    refine mjr_aload_n (x := l0) D_267_254 rfl ?_
    refine mjq_gR D_267_255 fr_12_30 h (fun v12 h => ?_)
    refine mjr_iload_n (x := l1) D_267_258 rfl ?_
    refine mjr_dup2 D_267_259 rfl rfl ?_
    refine mjq_aI D_267_260 h (fun v13 h => ?_)
    refine mjq_ic (v := (1 : Int32)) D_267_261 rfl ?_
    refine mjr_iadd D_267_262 ?_
    refine mjq_sI D_267_263 h (fun hp14 h => ?_)
    refine mjr_aload_n (x := l0) D_267_264 rfl ?_
    refine mjq_vN (As := []) (rest := []) D_267_265 mr_12_350 V_262 rfl rfl rfl hR (Nat.le_refl _) h1 h2 h (fun  hp15 h => ?_)
    refine mjr_aload_n (x := l0) D_267_268 rfl ?_
    refine mjq_bi (v := (44 : Int32)) D_267_269 rfl ?_
    refine mjq_vI (As := [.int (44 : Int32)]) (rest := []) D_267_271 mr_12_343 V_271 rfl rfl rfl hR (Nat.le_refl _) h1 h2 h (fun v16 hp17 h => ?_)
    refine mjq_istore_n (lo' := [some (.ref l0), some (.int l1), some (.int v16)]) D_267_274 (Nat.le_of_ble_eq_true rfl) rfl ?_
    refine mjr_iload_n (x := v16) D_267_275 rfl ?_
    refine mjq_if_eq (tgt := 170) D_267_276 rfl h (fun h => ?_) (fun h => ?_)
    · exact hk170 _ _ _ _ _ h
    · refine mjr_aload_n (x := l0) D_267_279 rfl ?_
      refine mjq_vN (As := []) (rest := []) D_267_280 mr_12_350 V_262 rfl rfl rfl hR (Nat.le_refl _) h1 h2 h (fun  hp18 h => ?_)
      refine mjr_goto (tgt := 170) D_267_283 rfl ?_
      exact hk170 _ _ _ _ _ h
  · exact mjq_nret D_267_215 rfl h1 h2 h
noncomputable def b_267_170 (R : mjR) (k170 : Nat → Int32 → Int32 → mjH → mjU) (l0 : Nat) (l1 : Int32) (l2 : Int32) (hp : mjH) : mjU := (if l2 = 0 then gI hp l0 12 61 (fun v1 => (if v1 = 0 then rV hp l0 12 (bN (R 270 [.ref l0, .int (93 : Int32)] hp) (fun  hp2 => b_267_299 R l0 l1 hp2)) else b_267_299 R l0 l1 hp)) else gI hp l0 12 3 (fun v3 => (if v3 = (2 : Int32) then gR hp l0 12 15 (fun v4 => aI hp v4 l1 (fun v5 => (if v5 = (5 : Int32) then gI hp l0 12 4 (fun v6 => rV hp l0 12 (bN (R 268 [.ref l0, .int (3 : Int32), .int v6] hp) (fun  hp7 => b_267_208 R k170 l0 l1 hp7))) else b_267_208 R k170 l0 l1 hp))) else rV hp l0 12 (bN (R 269 [.ref l0] hp) (fun  hp8 => b_267_208 R k170 l0 l1 hp8)))))
theorem t_267_170 {X : mjX} {d C S kc ks : Nat} {R : mjR} (hR : mjC R d) (h1 : kc ≤ C) (h2 : ks ≤ S) {k170 : Nat → Int32 → Int32 → mjH → mjU} (hk170 : P_267_170 X (d + 1) C S kc ks k170) : P_267_170 X (d + 1) C S kc ks (b_267_170 R k170) := by
  intro l0 l1 l2 hp q h
  unfold b_267_170 at h
  refine mjr_iload_n (x := l2) D_267_170 rfl ?_
  refine mjq_if_eq (tgt := 286) D_267_171 rfl h (fun h => ?_) (fun h => ?_)
  · refine mjr_aload_n (x := l0) D_267_286 rfl ?_
    refine mjq_gI D_267_287 fr_12_333 h (fun v1 h => ?_)
    refine mjq_if_ne (tgt := 299) D_267_290 rfl h (fun h => ?_) (fun h => ?_)
    · exact mjG.fg (lo' := [some (.ref l0), some (.int l1), none]) (And.intro rfl (And.intro rfl True.intro)) ((t_267_299 hR h1 h2) _ _ _ _ h)
    · refine mjr_aload_n (x := l0) D_267_293 rfl ?_
      refine mjq_bi (v := (93 : Int32)) D_267_294 rfl ?_
      refine mjq_vN (As := [.int (93 : Int32)]) (rest := []) D_267_296 mr_12_381 V_270 rfl rfl rfl hR (Nat.le_refl _) h1 h2 h (fun  hp2 h => ?_)
      exact mjG.fg (lo' := [some (.ref l0), some (.int l1), none]) (And.intro rfl (And.intro rfl True.intro)) ((t_267_299 hR h1 h2) _ _ _ _ h)
  · refine mjr_aload_n (x := l0) D_267_174 rfl ?_
    refine mjq_gI D_267_175 fr_12_316 h (fun v3 h => ?_)
    refine mjq_ic (v := (2 : Int32)) D_267_178 rfl ?_
    refine mjq_icmp_eq (tgt := 189) D_267_179 rfl h (fun h => ?_) (fun h => ?_)
    · refine mjr_aload_n (x := l0) D_267_189 rfl ?_
      refine mjq_gR D_267_190 fr_12_30 h (fun v4 h => ?_)
      refine mjr_iload_n (x := l1) D_267_193 rfl ?_
      refine mjq_aI D_267_194 h (fun v5 h => ?_)
      refine mjq_ic (v := (5 : Int32)) D_267_195 rfl ?_
      refine mjq_icmp_ne (tgt := 208) D_267_196 rfl h (fun h => ?_) (fun h => ?_)
      · exact mjG.fg (lo' := [some (.ref l0), some (.int l1), none]) (And.intro rfl (And.intro rfl True.intro)) ((t_267_208 hR h1 h2 hk170) _ _ _ _ h)
      · refine mjr_aload_n (x := l0) D_267_199 rfl ?_
        refine mjq_ic (v := (3 : Int32)) D_267_200 rfl ?_
        refine mjr_aload_n (x := l0) D_267_201 rfl ?_
        refine mjq_gI D_267_202 fr_12_310 h (fun v6 h => ?_)
        refine mjq_vN (As := [.int (3 : Int32), .int v6]) (rest := []) D_267_205 mr_12_339 V_268 rfl rfl rfl hR (Nat.le_refl _) h1 h2 h (fun  hp7 h => ?_)
        exact mjG.fg (lo' := [some (.ref l0), some (.int l1), none]) (And.intro rfl (And.intro rfl True.intro)) ((t_267_208 hR h1 h2 hk170) _ _ _ _ h)
    · refine mjr_aload_n (x := l0) D_267_182 rfl ?_
      refine mjq_vN (As := []) (rest := []) D_267_183 mr_12_347 V_269 rfl rfl rfl hR (Nat.le_refl _) h1 h2 h (fun  hp8 h => ?_)
      refine mjr_goto (tgt := 208) D_267_186 rfl ?_
      exact mjG.fg (lo' := [some (.ref l0), some (.int l1), none]) (And.intro rfl (And.intro rfl True.intro)) ((t_267_208 hR h1 h2 hk170) _ _ _ _ h)
noncomputable def L_267_170 (R : mjR) (n : Nat) : Nat → Int32 → Int32 → mjH → mjU := Nat.rec (motive := fun _ => Nat → Int32 → Int32 → mjH → mjU) (fun _ _ _ _ => none) (fun _ self => b_267_170 R self) n
theorem T_267_170 {X : mjX} {d C S kc ks : Nat} {R : mjR} (hR : mjC R d) (h1 : kc ≤ C) (h2 : ks ≤ S) (n : Nat) : P_267_170 X (d + 1) C S kc ks (L_267_170 R n) := by
  induction n with
  | zero => intro _ _ _ _ _ h; exact mj_no h
  | succ n ih => exact t_267_170 hR h1 h2 ih
noncomputable def b_267_169 (R : mjR) (l0 : Nat) (l1 : Int32) (s0 : Int32) (hp : mjH) : mjU := L_267_170 R mjN l0 l1 s0 hp
theorem t_267_169 {X : mjX} {d C S kc ks : Nat} {R : mjR} (hR : mjC R d) (h1 : kc ≤ C) (h2 : ks ≤ S) : P_267_169 X (d + 1) C S kc ks (b_267_169 R) := by
  intro l0 l1 s0 hp q h
  unfold b_267_169 at h
  refine mjq_istore_n (lo' := [some (.ref l0), some (.int l1), some (.int s0)]) D_267_169 (Nat.le_of_ble_eq_true rfl) rfl ?_
  exact (T_267_170 hR h1 h2 mjN) _ _ _ _ _ h
noncomputable def b_267_0 (R : mjR) (l0 : Nat) (hp : mjH) : mjU := gI hp l0 12 63 (fun v1 => gR hp l0 12 11 (fun v2 => gI hp l0 12 63 (fun v3 => aI hp v2 v3 (fun v4 => gR hp l0 12 11 (fun v5 => gI hp l0 12 63 (fun v6 => aI hp v5 v6 (fun v7 => (if v7 = (16 : Int32) then gI hp l0 12 4 (fun v40 => rV hp l0 12 (bN (R 268 [.ref l0, .int (3 : Int32), .int v40] hp) (fun  hp41 => some (none, hp41)))) else rV hp l0 12 (bN (R 262 [.ref l0] hp) (fun  hp8 => gI hp8 l0 12 3 (fun v9 => (if v9 = (1 : Int32) then pI hp8 l0 12 65 (((16 : Int32) * v1) + v4) (fun hp10 => gR hp10 l0 12 11 (fun v11 => gI hp10 l0 12 63 (fun v12 => aI hp10 v11 v12 (fun v13 => sI hp10 v11 v12 (v13 + (1 : Int32)) (fun hp14 => gR hp14 l0 12 12 (fun v15 => gL hp14 l0 12 7 (fun v16 => sL hp14 v15 (((16 : Int32) * v1) + v4) v16 (fun hp17 => gR hp17 l0 12 13 (fun v18 => gI hp17 l0 12 4 (fun v19 => sI hp17 v18 (((16 : Int32) * v1) + v4) v19 (fun hp20 => gR hp20 l0 12 14 (fun v21 => sI hp20 v21 (((16 : Int32) * v1) + v4) (-1 : Int32) (fun hp22 => gR hp22 l0 12 16 (fun v23 => sI hp22 v23 (((16 : Int32) * v1) + v4) (-1 : Int32) (fun hp24 => gR hp24 l0 12 17 (fun v25 => sI hp24 v25 (((16 : Int32) * v1) + v4) (0 : Int32) (fun hp26 => gR hp26 l0 12 15 (fun v27 => sI hp26 v27 (((16 : Int32) * v1) + v4) (0 : Int32) (fun hp28 => gR hp28 l0 12 18 (fun v29 => gR hp28 l0 12 31 (fun v30 => gI hp28 l0 12 63 (fun v31 => aI hp28 v30 v31 (fun v32 => sI hp28 v29 (((16 : Int32) * v1) + v4) v32 (fun hp33 => gR hp33 l0 12 19 (fun v34 => sI hp33 v34 (((16 : Int32) * v1) + v4) (0 : Int32) (fun hp35 => rV hp35 l0 12 (bN (R 262 [.ref l0] hp35) (fun  hp36 => rV hp36 l0 12 (bN (R 270 [.ref l0, .int (91 : Int32)] hp36) (fun  hp37 => gI hp37 l0 12 61 (fun v38 => (if v38 = 0 then b_267_169 R l0 (((16 : Int32) * v1) + v4) (1 : Int32) hp37 else b_267_169 R l0 (((16 : Int32) * v1) + v4) (0 : Int32) hp37)))))))))))))))))))))))))))))))) else rV hp8 l0 12 (bN (R 269 [.ref l0] hp8) (fun  hp39 => some (none, hp39)))))))))))))))
theorem t_267_0 {X : mjX} {d C S kc ks : Nat} {R : mjR} (hR : mjC R d) (h1 : kc ≤ C) (h2 : ks ≤ S) : P_267_0 X (d + 1) C S kc ks (b_267_0 R) := by
  intro l0 hp q h
  unfold b_267_0 at h
  refine mjq_bi (v := (16 : Int32)) D_267_0 rfl ?_
  refine mjr_aload_n (x := l0) D_267_2 rfl ?_
  refine mjq_gI D_267_3 fr_12_356 h (fun v1 h => ?_)
  refine mjr_imul D_267_6 ?_
  refine mjr_aload_n (x := l0) D_267_7 rfl ?_
  refine mjq_gR D_267_8 fr_12_17 h (fun v2 h => ?_)
  refine mjr_aload_n (x := l0) D_267_11 rfl ?_
  refine mjq_gI D_267_12 fr_12_356 h (fun v3 h => ?_)
  refine mjq_aI D_267_15 h (fun v4 h => ?_)
  refine mjr_iadd D_267_16 ?_
  refine mjq_istore_n (lo' := [some (.ref l0), some (.int (((16 : Int32) * v1) + v4)), none]) D_267_17 (Nat.le_of_ble_eq_true rfl) rfl ?_
  refine mjr_aload_n (x := l0) D_267_18 rfl ?_
  refine mjq_gR D_267_19 fr_12_17 h (fun v5 h => ?_)
  refine mjr_aload_n (x := l0) D_267_22 rfl ?_
  refine mjq_gI D_267_23 fr_12_356 h (fun v6 h => ?_)
  refine mjq_aI D_267_26 h (fun v7 h => ?_)
  refine mjq_bi (v := (16 : Int32)) D_267_27 rfl ?_
  refine mjq_icmp_ne (tgt := 42) D_267_29 rfl h (fun h => ?_) (fun h => ?_)
  · refine mjr_aload_n (x := l0) D_267_42 rfl ?_
    refine mjq_vN (As := []) (rest := []) D_267_43 mr_12_350 V_262 rfl rfl rfl hR (Nat.le_refl _) h1 h2 h (fun  hp8 h => ?_)
    refine mjr_aload_n (x := l0) D_267_46 rfl ?_
    refine mjq_gI D_267_47 fr_12_316 h (fun v9 h => ?_)
    refine mjq_ic (v := (1 : Int32)) D_267_50 rfl ?_
    refine mjq_icmp_eq (tgt := 59) D_267_51 rfl h (fun h => ?_) (fun h => ?_)
    · refine mjr_aload_n (x := l0) D_267_59 rfl ?_
      refine mjr_iload_n (x := (((16 : Int32) * v1) + v4)) D_267_60 rfl ?_
      refine mjq_pI D_267_61 fr_12_378 rfl rfl h (fun hp10 h => ?_)
      refine mjr_aload_n (x := l0) D_267_64 rfl ?_
      refine mjq_gR D_267_65 fr_12_17 h (fun v11 h => ?_)
      refine mjr_aload_n (x := l0) D_267_68 rfl ?_
      refine mjq_gI D_267_69 fr_12_356 h (fun v12 h => ?_)
      refine mjr_dup2 D_267_72 rfl rfl ?_
      refine mjq_aI D_267_73 h (fun v13 h => ?_)
      refine mjq_ic (v := (1 : Int32)) D_267_74 rfl ?_
      refine mjr_iadd D_267_75 ?_
      refine mjq_sI D_267_76 h (fun hp14 h => ?_)
      refine mjr_aload_n (x := l0) D_267_77 rfl ?_
      refine mjq_gR D_267_78 fr_12_21 h (fun v15 h => ?_)
      refine mjr_iload_n (x := (((16 : Int32) * v1) + v4)) D_267_81 rfl ?_
      refine mjr_aload_n (x := l0) D_267_82 rfl ?_
      refine mjq_gL D_267_83 fr_12_322 h (fun v16 h => ?_)
      refine mjq_sL D_267_86 h (fun hp17 h => ?_)
      refine mjr_aload_n (x := l0) D_267_87 rfl ?_
      refine mjq_gR D_267_88 fr_12_24 h (fun v18 h => ?_)
      refine mjr_iload_n (x := (((16 : Int32) * v1) + v4)) D_267_91 rfl ?_
      refine mjr_aload_n (x := l0) D_267_92 rfl ?_
      refine mjq_gI D_267_93 fr_12_310 h (fun v19 h => ?_)
      refine mjq_sI D_267_96 h (fun hp20 h => ?_)
      refine mjr_aload_n (x := l0) D_267_97 rfl ?_
      refine mjq_gR D_267_98 fr_12_27 h (fun v21 h => ?_)
      refine mjr_iload_n (x := (((16 : Int32) * v1) + v4)) D_267_101 rfl ?_
      refine mjq_ic (v := (-1 : Int32)) D_267_102 rfl ?_
      refine mjq_sI D_267_103 h (fun hp22 h => ?_)
      refine mjr_aload_n (x := l0) D_267_104 rfl ?_
      refine mjq_gR D_267_105 fr_12_33 h (fun v23 h => ?_)
      refine mjr_iload_n (x := (((16 : Int32) * v1) + v4)) D_267_108 rfl ?_
      refine mjq_ic (v := (-1 : Int32)) D_267_109 rfl ?_
      refine mjq_sI D_267_110 h (fun hp24 h => ?_)
      refine mjr_aload_n (x := l0) D_267_111 rfl ?_
      refine mjq_gR D_267_112 fr_12_36 h (fun v25 h => ?_)
      refine mjr_iload_n (x := (((16 : Int32) * v1) + v4)) D_267_115 rfl ?_
      refine mjq_ic (v := (0 : Int32)) D_267_116 rfl ?_
      refine mjq_sI D_267_117 h (fun hp26 h => ?_)
      refine mjr_aload_n (x := l0) D_267_118 rfl ?_
      refine mjq_gR D_267_119 fr_12_30 h (fun v27 h => ?_)
      refine mjr_iload_n (x := (((16 : Int32) * v1) + v4)) D_267_122 rfl ?_
      refine mjq_ic (v := (0 : Int32)) D_267_123 rfl ?_
      refine mjq_sI D_267_124 h (fun hp28 h => ?_)
      refine mjr_aload_n (x := l0) D_267_125 rfl ?_
      refine mjq_gR D_267_126 fr_12_39 h (fun v29 h => ?_)
      refine mjr_iload_n (x := (((16 : Int32) * v1) + v4)) D_267_129 rfl ?_
      refine mjr_aload_n (x := l0) D_267_130 rfl ?_
      refine mjq_gR D_267_131 fr_12_79 h (fun v30 h => ?_)
      refine mjr_aload_n (x := l0) D_267_134 rfl ?_
      refine mjq_gI D_267_135 fr_12_356 h (fun v31 h => ?_)
      refine mjq_aI D_267_138 h (fun v32 h => ?_)
      refine mjq_sI D_267_139 h (fun hp33 h => ?_)
      refine mjr_aload_n (x := l0) D_267_140 rfl ?_
      refine mjq_gR D_267_141 fr_12_42 h (fun v34 h => ?_)
      refine mjr_iload_n (x := (((16 : Int32) * v1) + v4)) D_267_144 rfl ?_
      refine mjq_ic (v := (0 : Int32)) D_267_145 rfl ?_
      refine mjq_sI D_267_146 h (fun hp35 h => ?_)
      refine mjr_aload_n (x := l0) D_267_147 rfl ?_
      refine mjq_vN (As := []) (rest := []) D_267_148 mr_12_350 V_262 rfl rfl rfl hR (Nat.le_refl _) h1 h2 h (fun  hp36 h => ?_)
      refine mjr_aload_n (x := l0) D_267_151 rfl ?_
      refine mjq_bi (v := (91 : Int32)) D_267_152 rfl ?_
      refine mjq_vN (As := [.int (91 : Int32)]) (rest := []) D_267_154 mr_12_381 V_270 rfl rfl rfl hR (Nat.le_refl _) h1 h2 h (fun  hp37 h => ?_)
      refine mjr_aload_n (x := l0) D_267_157 rfl ?_
      refine mjq_gI D_267_158 fr_12_333 h (fun v38 h => ?_)
      refine mjq_if_ne (tgt := 168) D_267_161 rfl h (fun h => ?_) (fun h => ?_)
      · refine mjq_ic (v := (0 : Int32)) D_267_168 rfl ?_
        exact (t_267_169 hR h1 h2) _ _ _ _ _ h
      · refine mjq_ic (v := (1 : Int32)) D_267_164 rfl ?_
        refine mjr_goto (tgt := 169) D_267_165 rfl ?_
        exact (t_267_169 hR h1 h2) _ _ _ _ _ h
    · refine mjr_aload_n (x := l0) D_267_54 rfl ?_
      refine mjq_vN (As := []) (rest := []) D_267_55 mr_12_347 V_269 rfl rfl rfl hR (Nat.le_refl _) h1 h2 h (fun  hp39 h => ?_)
      exact mjq_nret D_267_58 rfl h1 h2 h
  · refine mjr_aload_n (x := l0) D_267_32 rfl ?_
    refine mjq_ic (v := (3 : Int32)) D_267_33 rfl ?_
    refine mjr_aload_n (x := l0) D_267_34 rfl ?_
    refine mjq_gI D_267_35 fr_12_310 h (fun v40 h => ?_)
    refine mjq_vN (As := [.int (3 : Int32), .int v40]) (rest := []) D_267_38 mr_12_339 V_268 rfl rfl rfl hR (Nat.le_refl _) h1 h2 h (fun  hp41 h => ?_)
    exact mjq_nret D_267_41 rfl h1 h2 h
noncomputable def f_267 (R : mjR) (a0 : Nat) (hp : mjH) : mjU := b_267_0 R a0 hp
theorem c_267 {R : mjR} {d : Nat} (hR : mjC R d) {a0 : Nat} {hp : mjH} {q : Option Value × mjH} (h : f_267 R a0 hp = some q) : mjM (d + 1) 0 0 267 [.ref a0] hp (mjEq q) :=
  mjM_of Ja_267 (Nat.le_of_ble_eq_true rfl) (mjG.fg (lo' := [some (.ref a0), none, none]) (And.intro rfl True.intro) ((t_267_0 hR (Nat.le_refl 0) (Nat.le_refl 0)) a0 hp q h))
def J_268 : mjI := (⟨"OwnerHeapModel", "fail", "(II)V"⟩, 12, prog_14_method_11_code, 3, none, 2, false)
theorem Ja_268 : mjMt 268 = some J_268 := by rfl
theorem D_268_0 : decode J_268.2.2.1 0 = .ok (.aload_n 0, 1) := dzq_42 (by decide +kernel)
theorem D_268_1 : decode J_268.2.2.1 1 = .ok (.getfield 333, 3) := dzq_180 (by decide +kernel)
theorem D_268_4 : decode J_268.2.2.1 4 = .ok (.ifCond .le 4, 3) := dzq_158 (by decide +kernel)
theorem D_268_7 : decode J_268.2.2.1 7 = .ok (.return_, 1) := dzq_177 (by decide +kernel)
theorem D_268_8 : decode J_268.2.2.1 8 = .ok (.aload_n 0, 1) := dzq_42 (by decide +kernel)
theorem D_268_9 : decode J_268.2.2.1 9 = .ok (.iload_n 1, 1) := dzq_27 (by decide +kernel)
theorem D_268_10 : decode J_268.2.2.1 10 = .ok (.putfield 333, 3) := dzq_181 (by decide +kernel)
theorem D_268_13 : decode J_268.2.2.1 13 = .ok (.aload_n 0, 1) := dzq_42 (by decide +kernel)
theorem D_268_14 : decode J_268.2.2.1 14 = .ok (.iload_n 2, 1) := dzq_28 (by decide +kernel)
theorem D_268_15 : decode J_268.2.2.1 15 = .ok (.putfield 336, 3) := dzq_181 (by decide +kernel)
theorem D_268_18 : decode J_268.2.2.1 18 = .ok (.return_, 1) := dzq_177 (by decide +kernel)
def P_268_0 (X : mjX) (d C S kc ks : Nat) (k : Nat → Int32 → Int32 → mjH → mjU) : Prop := ∀ (l0 : Nat) (l1 : Int32) (l2 : Int32) (hp : mjH) (q : Option Value × mjH), k l0 l1 l2 hp = some q → mjG X d C S J_268 (mjEq q) 0 [some (.ref l0), some (.int l1), some (.int l2)] [] hp kc ks
noncomputable def b_268_0 (R : mjR) (l0 : Nat) (l1 : Int32) (l2 : Int32) (hp : mjH) : mjU := gI hp l0 12 61 (fun v1 => (if v1 ≤ 0 then pI hp l0 12 61 l1 (fun hp2 => pI hp2 l0 12 62 l2 (fun hp3 => some (none, hp3))) else some (none, hp)))
theorem t_268_0 {X : mjX} {d C S kc ks : Nat} {R : mjR} (hR : mjC R d) (h1 : kc ≤ C) (h2 : ks ≤ S) : P_268_0 X (d + 1) C S kc ks (b_268_0 R) := by
  intro l0 l1 l2 hp q h
  unfold b_268_0 at h
  refine mjr_aload_n (x := l0) D_268_0 rfl ?_
  refine mjq_gI D_268_1 fr_12_333 h (fun v1 h => ?_)
  refine mjq_if_le (tgt := 8) D_268_4 rfl h (fun h => ?_) (fun h => ?_)
  · refine mjr_aload_n (x := l0) D_268_8 rfl ?_
    refine mjr_iload_n (x := l1) D_268_9 rfl ?_
    refine mjq_pI D_268_10 fr_12_333 rfl rfl h (fun hp2 h => ?_)
    refine mjr_aload_n (x := l0) D_268_13 rfl ?_
    refine mjr_iload_n (x := l2) D_268_14 rfl ?_
    refine mjq_pI D_268_15 fr_12_336 rfl rfl h (fun hp3 h => ?_)
    exact mjq_nret D_268_18 rfl h1 h2 h
  · exact mjq_nret D_268_7 rfl h1 h2 h
noncomputable def f_268 (R : mjR) (a0 : Nat) (a1 : Int32) (a2 : Int32) (hp : mjH) : mjU := b_268_0 R a0 a1 a2 hp
theorem c_268 {R : mjR} {d : Nat} (hR : mjC R d) {a0 : Nat} {a1 : Int32} {a2 : Int32} {hp : mjH} {q : Option Value × mjH} (h : f_268 R a0 a1 a2 hp = some q) : mjM (d + 1) 0 0 268 [.ref a0, .int a1, .int a2] hp (mjEq q) :=
  mjM_of Ja_268 (Nat.le_of_ble_eq_true rfl) (mjG.fg (lo' := [some (.ref a0), some (.int a1), some (.int a2)]) (And.intro rfl (And.intro rfl (And.intro rfl True.intro))) ((t_268_0 hR (Nat.le_refl 0) (Nat.le_refl 0)) a0 a1 a2 hp q h))
def J_269 : mjI := (⟨"OwnerHeapModel", "wrong", "()V"⟩, 12, prog_14_method_12_code, 1, none, 0, false)
theorem Ja_269 : mjMt 269 = some J_269 := by rfl
theorem D_269_0 : decode J_269.2.2.1 0 = .ok (.aload_n 0, 1) := dzq_42 (by decide +kernel)
theorem D_269_1 : decode J_269.2.2.1 1 = .ok (.aload_n 0, 1) := dzq_42 (by decide +kernel)
theorem D_269_2 : decode J_269.2.2.1 2 = .ok (.getfield 316, 3) := dzq_180 (by decide +kernel)
theorem D_269_5 : decode J_269.2.2.1 5 = .ok (.bipush 6, 2) := dzq_16 (by decide +kernel)
theorem D_269_7 : decode J_269.2.2.1 7 = .ok (.if_icmp .ne 7, 3) := dzq_160 (by decide +kernel)
theorem D_269_10 : decode J_269.2.2.1 10 = .ok (.iconst 1, 1) := dzq_4 (by decide +kernel)
theorem D_269_11 : decode J_269.2.2.1 11 = .ok (.goto 4, 3) := dzq_167 (by decide +kernel)
theorem D_269_14 : decode J_269.2.2.1 14 = .ok (.iconst 2, 1) := dzq_5 (by decide +kernel)
theorem D_269_15 : decode J_269.2.2.1 15 = .ok (.aload_n 0, 1) := dzq_42 (by decide +kernel)
theorem D_269_16 : decode J_269.2.2.1 16 = .ok (.getfield 310, 3) := dzq_180 (by decide +kernel)
theorem D_269_19 : decode J_269.2.2.1 19 = .ok (.invokevirtual 339, 3) := dzq_182 (by decide +kernel)
theorem D_269_22 : decode J_269.2.2.1 22 = .ok (.return_, 1) := dzq_177 (by decide +kernel)
def P_269_15 (X : mjX) (d C S kc ks : Nat) (k : Nat → Nat → Int32 → mjH → mjU) : Prop := ∀ (l0 : Nat) (s0 : Nat) (s1 : Int32) (hp : mjH) (q : Option Value × mjH), k l0 s0 s1 hp = some q → mjG X d C S J_269 (mjEq q) 15 [some (.ref l0)] [.int s1, .ref s0] hp kc ks
def P_269_0 (X : mjX) (d C S kc ks : Nat) (k : Nat → mjH → mjU) : Prop := ∀ (l0 : Nat) (hp : mjH) (q : Option Value × mjH), k l0 hp = some q → mjG X d C S J_269 (mjEq q) 0 [some (.ref l0)] [] hp kc ks
noncomputable def b_269_15 (R : mjR) (l0 : Nat) (s0 : Nat) (s1 : Int32) (hp : mjH) : mjU := gI hp l0 12 4 (fun v1 => rV hp s0 12 (bN (R 268 [.ref s0, .int s1, .int v1] hp) (fun  hp2 => some (none, hp2))))
theorem t_269_15 {X : mjX} {d C S kc ks : Nat} {R : mjR} (hR : mjC R d) (h1 : kc ≤ C) (h2 : ks ≤ S) : P_269_15 X (d + 1) C S kc ks (b_269_15 R) := by
  intro l0 s0 s1 hp q h
  unfold b_269_15 at h
  refine mjr_aload_n (x := l0) D_269_15 rfl ?_
  refine mjq_gI D_269_16 fr_12_310 h (fun v1 h => ?_)
  refine mjq_vN (As := [.int s1, .int v1]) (rest := []) D_269_19 mr_12_339 V_268 rfl rfl rfl hR (Nat.le_refl _) h1 h2 h (fun  hp2 h => ?_)
  exact mjq_nret D_269_22 rfl h1 h2 h
noncomputable def b_269_0 (R : mjR) (l0 : Nat) (hp : mjH) : mjU := gI hp l0 12 3 (fun v1 => (if v1 = (6 : Int32) then b_269_15 R l0 l0 (1 : Int32) hp else b_269_15 R l0 l0 (2 : Int32) hp))
theorem t_269_0 {X : mjX} {d C S kc ks : Nat} {R : mjR} (hR : mjC R d) (h1 : kc ≤ C) (h2 : ks ≤ S) : P_269_0 X (d + 1) C S kc ks (b_269_0 R) := by
  intro l0 hp q h
  unfold b_269_0 at h
  refine mjr_aload_n (x := l0) D_269_0 rfl ?_
  refine mjr_aload_n (x := l0) D_269_1 rfl ?_
  refine mjq_gI D_269_2 fr_12_316 h (fun v1 h => ?_)
  refine mjq_bi (v := (6 : Int32)) D_269_5 rfl ?_
  refine mjq_icmp_ne (tgt := 14) D_269_7 rfl h (fun h => ?_) (fun h => ?_)
  · refine mjq_ic (v := (2 : Int32)) D_269_14 rfl ?_
    exact (t_269_15 hR h1 h2) _ _ _ _ _ h
  · refine mjq_ic (v := (1 : Int32)) D_269_10 rfl ?_
    refine mjr_goto (tgt := 15) D_269_11 rfl ?_
    exact (t_269_15 hR h1 h2) _ _ _ _ _ h
noncomputable def f_269 (R : mjR) (a0 : Nat) (hp : mjH) : mjU := b_269_0 R a0 hp
theorem c_269 {R : mjR} {d : Nat} (hR : mjC R d) {a0 : Nat} {hp : mjH} {q : Option Value × mjH} (h : f_269 R a0 hp = some q) : mjM (d + 1) 0 0 269 [.ref a0] hp (mjEq q) :=
  mjM_of Ja_269 (Nat.le_of_ble_eq_true rfl) (mjG.fg (lo' := [some (.ref a0)]) (And.intro rfl True.intro) ((t_269_0 hR (Nat.le_refl 0) (Nat.le_refl 0)) a0 hp q h))
def J_270 : mjI := (⟨"OwnerHeapModel", "take", "(I)V"⟩, 12, prog_14_method_13_code, 2, none, 1, false)
theorem Ja_270 : mjMt 270 = some J_270 := by rfl
theorem D_270_0 : decode J_270.2.2.1 0 = .ok (.aload_n 0, 1) := dzq_42 (by decide +kernel)
theorem D_270_1 : decode J_270.2.2.1 1 = .ok (.iload_n 1, 1) := dzq_27 (by decide +kernel)
theorem D_270_2 : decode J_270.2.2.1 2 = .ok (.invokevirtual 343, 3) := dzq_182 (by decide +kernel)
theorem D_270_5 : decode J_270.2.2.1 5 = .ok (.ifCond .ne 10, 3) := dzq_154 (by decide +kernel)
theorem D_270_8 : decode J_270.2.2.1 8 = .ok (.aload_n 0, 1) := dzq_42 (by decide +kernel)
theorem D_270_9 : decode J_270.2.2.1 9 = .ok (.invokevirtual 347, 3) := dzq_182 (by decide +kernel)
theorem D_270_12 : decode J_270.2.2.1 12 = .ok (.goto 7, 3) := dzq_167 (by decide +kernel)
theorem D_270_15 : decode J_270.2.2.1 15 = .ok (.aload_n 0, 1) := dzq_42 (by decide +kernel)
theorem D_270_16 : decode J_270.2.2.1 16 = .ok (.invokevirtual 350, 3) := dzq_182 (by decide +kernel)
theorem D_270_19 : decode J_270.2.2.1 19 = .ok (.return_, 1) := dzq_177 (by decide +kernel)
def P_270_0 (X : mjX) (d C S kc ks : Nat) (k : Nat → Int32 → mjH → mjU) : Prop := ∀ (l0 : Nat) (l1 : Int32) (hp : mjH) (q : Option Value × mjH), k l0 l1 hp = some q → mjG X d C S J_270 (mjEq q) 0 [some (.ref l0), some (.int l1)] [] hp kc ks
noncomputable def b_270_0 (R : mjR) (l0 : Nat) (l1 : Int32) (hp : mjH) : mjU := rV hp l0 12 (bI (R 271 [.ref l0, .int l1] hp) (fun v1 hp2 => (if v1 = 0 then rV hp2 l0 12 (bN (R 269 [.ref l0] hp2) (fun  hp4 => some (none, hp4))) else rV hp2 l0 12 (bN (R 262 [.ref l0] hp2) (fun  hp3 => some (none, hp3))))))
theorem t_270_0 {X : mjX} {d C S kc ks : Nat} {R : mjR} (hR : mjC R d) (h1 : kc ≤ C) (h2 : ks ≤ S) : P_270_0 X (d + 1) C S kc ks (b_270_0 R) := by
  intro l0 l1 hp q h
  unfold b_270_0 at h
  refine mjr_aload_n (x := l0) D_270_0 rfl ?_
  refine mjr_iload_n (x := l1) D_270_1 rfl ?_
  refine mjq_vI (As := [.int l1]) (rest := []) D_270_2 mr_12_343 V_271 rfl rfl rfl hR (Nat.le_refl _) h1 h2 h (fun v1 hp2 h => ?_)
  refine mjq_if_ne (tgt := 15) D_270_5 rfl h (fun h => ?_) (fun h => ?_)
  · refine mjr_aload_n (x := l0) D_270_15 rfl ?_
    refine mjq_vN (As := []) (rest := []) D_270_16 mr_12_350 V_262 rfl rfl rfl hR (Nat.le_refl _) h1 h2 h (fun  hp3 h => ?_)
    exact mjq_nret D_270_19 rfl h1 h2 h
  · refine mjr_aload_n (x := l0) D_270_8 rfl ?_
    refine mjq_vN (As := []) (rest := []) D_270_9 mr_12_347 V_269 rfl rfl rfl hR (Nat.le_refl _) h1 h2 h (fun  hp4 h => ?_)
    refine mjr_goto (tgt := 19) D_270_12 rfl ?_
    exact mjq_nret D_270_19 rfl h1 h2 h
noncomputable def f_270 (R : mjR) (a0 : Nat) (a1 : Int32) (hp : mjH) : mjU := b_270_0 R a0 a1 hp
theorem c_270 {R : mjR} {d : Nat} (hR : mjC R d) {a0 : Nat} {a1 : Int32} {hp : mjH} {q : Option Value × mjH} (h : f_270 R a0 a1 hp = some q) : mjM (d + 1) 0 0 270 [.ref a0, .int a1] hp (mjEq q) :=
  mjM_of Ja_270 (Nat.le_of_ble_eq_true rfl) (mjG.fg (lo' := [some (.ref a0), some (.int a1)]) (And.intro rfl (And.intro rfl True.intro)) ((t_270_0 hR (Nat.le_refl 0) (Nat.le_refl 0)) a0 a1 hp q h))
def J_271 : mjI := (⟨"OwnerHeapModel", "isSign", "(I)Z"⟩, 12, prog_14_method_9_code, 2, (some .boolean), 1, false)
theorem Ja_271 : mjMt 271 = some J_271 := by rfl
theorem D_271_0 : decode J_271.2.2.1 0 = .ok (.aload_n 0, 1) := dzq_42 (by decide +kernel)
theorem D_271_1 : decode J_271.2.2.1 1 = .ok (.getfield 316, 3) := dzq_180 (by decide +kernel)
theorem D_271_4 : decode J_271.2.2.1 4 = .ok (.iconst 4, 1) := dzq_7 (by decide +kernel)
theorem D_271_5 : decode J_271.2.2.1 5 = .ok (.if_icmp .ne 15, 3) := dzq_160 (by decide +kernel)
theorem D_271_8 : decode J_271.2.2.1 8 = .ok (.aload_n 0, 1) := dzq_42 (by decide +kernel)
theorem D_271_9 : decode J_271.2.2.1 9 = .ok (.getfield 319, 3) := dzq_180 (by decide +kernel)
theorem D_271_12 : decode J_271.2.2.1 12 = .ok (.iload_n 1, 1) := dzq_27 (by decide +kernel)
theorem D_271_13 : decode J_271.2.2.1 13 = .ok (.if_icmp .ne 7, 3) := dzq_160 (by decide +kernel)
theorem D_271_16 : decode J_271.2.2.1 16 = .ok (.iconst 1, 1) := dzq_4 (by decide +kernel)
theorem D_271_17 : decode J_271.2.2.1 17 = .ok (.goto 4, 3) := dzq_167 (by decide +kernel)
theorem D_271_20 : decode J_271.2.2.1 20 = .ok (.iconst 0, 1) := dzq_3 (by decide +kernel)
theorem D_271_21 : decode J_271.2.2.1 21 = .ok (.ireturn, 1) := dzq_172 (by decide +kernel)
def P_271_20 (X : mjX) (d C S kc ks : Nat) (k : mjH → mjU) : Prop := ∀  (hp : mjH) (q : Option Value × mjH), k  hp = some q → mjG X d C S J_271 (mjEq q) 20 [none, none] [] hp kc ks
def P_271_0 (X : mjX) (d C S kc ks : Nat) (k : Nat → Int32 → mjH → mjU) : Prop := ∀ (l0 : Nat) (l1 : Int32) (hp : mjH) (q : Option Value × mjH), k l0 l1 hp = some q → mjG X d C S J_271 (mjEq q) 0 [some (.ref l0), some (.int l1)] [] hp kc ks
noncomputable def b_271_20 (R : mjR)  (hp : mjH) : mjU := some (some (.int (0 : Int32)), hp)
theorem t_271_20 {X : mjX} {d C S kc ks : Nat} {R : mjR} (hR : mjC R d) (h1 : kc ≤ C) (h2 : ks ≤ S) : P_271_20 X (d + 1) C S kc ks (b_271_20 R) := by
  intro  hp q h
  unfold b_271_20 at h
  refine mjq_ic (v := (0 : Int32)) D_271_20 rfl ?_
  exact mjr_ireturn D_271_21 rfl rfl h1 h2 (Option.some.inj h)
noncomputable def b_271_0 (R : mjR) (l0 : Nat) (l1 : Int32) (hp : mjH) : mjU := gI hp l0 12 3 (fun v1 => (if v1 = (4 : Int32) then gI hp l0 12 6 (fun v2 => (if v2 = l1 then some (some (.int (1 : Int32)), hp) else b_271_20 R hp)) else b_271_20 R hp))
theorem t_271_0 {X : mjX} {d C S kc ks : Nat} {R : mjR} (hR : mjC R d) (h1 : kc ≤ C) (h2 : ks ≤ S) : P_271_0 X (d + 1) C S kc ks (b_271_0 R) := by
  intro l0 l1 hp q h
  unfold b_271_0 at h
  refine mjr_aload_n (x := l0) D_271_0 rfl ?_
  refine mjq_gI D_271_1 fr_12_316 h (fun v1 h => ?_)
  refine mjq_ic (v := (4 : Int32)) D_271_4 rfl ?_
  refine mjq_icmp_ne (tgt := 20) D_271_5 rfl h (fun h => ?_) (fun h => ?_)
  · exact mjG.fg (lo' := [none, none]) True.intro ((t_271_20 hR h1 h2) _ _ h)
  · refine mjr_aload_n (x := l0) D_271_8 rfl ?_
    refine mjq_gI D_271_9 fr_12_319 h (fun v2 h => ?_)
    refine mjr_iload_n (x := l1) D_271_12 rfl ?_
    refine mjq_icmp_ne (tgt := 20) D_271_13 rfl h (fun h => ?_) (fun h => ?_)
    · exact mjG.fg (lo' := [none, none]) True.intro ((t_271_20 hR h1 h2) _ _ h)
    · refine mjq_ic (v := (1 : Int32)) D_271_16 rfl ?_
      refine mjr_goto (tgt := 21) D_271_17 rfl ?_
      exact mjr_ireturn D_271_21 rfl rfl h1 h2 (Option.some.inj h)
noncomputable def f_271 (R : mjR) (a0 : Nat) (a1 : Int32) (hp : mjH) : mjU := b_271_0 R a0 a1 hp
theorem c_271 {R : mjR} {d : Nat} (hR : mjC R d) {a0 : Nat} {a1 : Int32} {hp : mjH} {q : Option Value × mjH} (h : f_271 R a0 a1 hp = some q) : mjM (d + 1) 0 0 271 [.ref a0, .int a1] hp (mjEq q) :=
  mjM_of Ja_271 (Nat.le_of_ble_eq_true rfl) (mjG.fg (lo' := [some (.ref a0), some (.int a1)]) (And.intro rfl (And.intro rfl True.intro)) ((t_271_0 hR (Nat.le_refl 0) (Nat.le_refl 0)) a0 a1 hp q h))
def J_272 : mjI := (⟨"OwnerHeapModel", "readKind", "()I"⟩, 12, prog_14_method_21_code, 4, (some .int), 0, false)
theorem Ja_272 : mjMt 272 = some J_272 := by rfl
theorem D_272_0 : decode J_272.2.2.1 0 = .ok (.aload_n 0, 1) := dzq_42 (by decide +kernel)
theorem D_272_1 : decode J_272.2.2.1 1 = .ok (.getfield 316, 3) := dzq_180 (by decide +kernel)
theorem D_272_4 : decode J_272.2.2.1 4 = .ok (.iconst 1, 1) := dzq_4 (by decide +kernel)
theorem D_272_5 : decode J_272.2.2.1 5 = .ok (.if_icmp .eq 9, 3) := dzq_159 (by decide +kernel)
theorem D_272_8 : decode J_272.2.2.1 8 = .ok (.aload_n 0, 1) := dzq_42 (by decide +kernel)
theorem D_272_9 : decode J_272.2.2.1 9 = .ok (.invokevirtual 347, 3) := dzq_182 (by decide +kernel)
theorem D_272_12 : decode J_272.2.2.1 12 = .ok (.iconst (-1), 1) := dzq_2 (by decide +kernel)
theorem D_272_13 : decode J_272.2.2.1 13 = .ok (.ireturn, 1) := dzq_172 (by decide +kernel)
theorem D_272_14 : decode J_272.2.2.1 14 = .ok (.sipush 800, 3) := dzq_17 (by decide +kernel)
theorem D_272_17 : decode J_272.2.2.1 17 = .ok (.aload_n 0, 1) := dzq_42 (by decide +kernel)
theorem D_272_18 : decode J_272.2.2.1 18 = .ok (.getfield 356, 3) := dzq_180 (by decide +kernel)
theorem D_272_21 : decode J_272.2.2.1 21 = .ok (.imul, 1) := dzq_104 (by decide +kernel)
theorem D_272_22 : decode J_272.2.2.1 22 = .ok (.aload_n 0, 1) := dzq_42 (by decide +kernel)
theorem D_272_23 : decode J_272.2.2.1 23 = .ok (.getfield 82, 3) := dzq_180 (by decide +kernel)
theorem D_272_26 : decode J_272.2.2.1 26 = .ok (.aload_n 0, 1) := dzq_42 (by decide +kernel)
theorem D_272_27 : decode J_272.2.2.1 27 = .ok (.getfield 356, 3) := dzq_180 (by decide +kernel)
theorem D_272_30 : decode J_272.2.2.1 30 = .ok (.iaload, 1) := dzq_46 (by decide +kernel)
theorem D_272_31 : decode J_272.2.2.1 31 = .ok (.iadd, 1) := dzq_96 (by decide +kernel)
theorem D_272_32 : decode J_272.2.2.1 32 = .ok (.istore_n 1, 1) := dzq_60 (by decide +kernel)
theorem D_272_33 : decode J_272.2.2.1 33 = .ok (.aload_n 0, 1) := dzq_42 (by decide +kernel)
theorem D_272_34 : decode J_272.2.2.1 34 = .ok (.getfield 82, 3) := dzq_180 (by decide +kernel)
theorem D_272_37 : decode J_272.2.2.1 37 = .ok (.aload_n 0, 1) := dzq_42 (by decide +kernel)
theorem D_272_38 : decode J_272.2.2.1 38 = .ok (.getfield 356, 3) := dzq_180 (by decide +kernel)
theorem D_272_41 : decode J_272.2.2.1 41 = .ok (.dup2, 1) := by decide +kernel
theorem D_272_42 : decode J_272.2.2.1 42 = .ok (.iaload, 1) := dzq_46 (by decide +kernel)
theorem D_272_43 : decode J_272.2.2.1 43 = .ok (.iconst 1, 1) := dzq_4 (by decide +kernel)
theorem D_272_44 : decode J_272.2.2.1 44 = .ok (.iadd, 1) := dzq_96 (by decide +kernel)
theorem D_272_45 : decode J_272.2.2.1 45 = .ok (.iastore, 1) := dzq_79 (by decide +kernel)
theorem D_272_46 : decode J_272.2.2.1 46 = .ok (.aload_n 0, 1) := dzq_42 (by decide +kernel)
theorem D_272_47 : decode J_272.2.2.1 47 = .ok (.getfield 127, 3) := dzq_180 (by decide +kernel)
theorem D_272_50 : decode J_272.2.2.1 50 = .ok (.iload_n 1, 1) := dzq_27 (by decide +kernel)
theorem D_272_51 : decode J_272.2.2.1 51 = .ok (.aload_n 0, 1) := dzq_42 (by decide +kernel)
theorem D_272_52 : decode J_272.2.2.1 52 = .ok (.getfield 322, 3) := dzq_180 (by decide +kernel)
theorem D_272_55 : decode J_272.2.2.1 55 = .ok (.lastore, 1) := by decide +kernel
theorem D_272_56 : decode J_272.2.2.1 56 = .ok (.aload_n 0, 1) := dzq_42 (by decide +kernel)
theorem D_272_57 : decode J_272.2.2.1 57 = .ok (.getfield 130, 3) := dzq_180 (by decide +kernel)
theorem D_272_60 : decode J_272.2.2.1 60 = .ok (.iload_n 1, 1) := dzq_27 (by decide +kernel)
theorem D_272_61 : decode J_272.2.2.1 61 = .ok (.aload_n 0, 1) := dzq_42 (by decide +kernel)
theorem D_272_62 : decode J_272.2.2.1 62 = .ok (.getfield 310, 3) := dzq_180 (by decide +kernel)
theorem D_272_65 : decode J_272.2.2.1 65 = .ok (.iastore, 1) := dzq_79 (by decide +kernel)
theorem D_272_66 : decode J_272.2.2.1 66 = .ok (.aload_n 0, 1) := dzq_42 (by decide +kernel)
theorem D_272_67 : decode J_272.2.2.1 67 = .ok (.getfield 133, 3) := dzq_180 (by decide +kernel)
theorem D_272_70 : decode J_272.2.2.1 70 = .ok (.iload_n 1, 1) := dzq_27 (by decide +kernel)
theorem D_272_71 : decode J_272.2.2.1 71 = .ok (.iconst 0, 1) := dzq_3 (by decide +kernel)
theorem D_272_72 : decode J_272.2.2.1 72 = .ok (.iastore, 1) := dzq_79 (by decide +kernel)
theorem D_272_73 : decode J_272.2.2.1 73 = .ok (.aload_n 0, 1) := dzq_42 (by decide +kernel)
theorem D_272_74 : decode J_272.2.2.1 74 = .ok (.invokevirtual 350, 3) := dzq_182 (by decide +kernel)
theorem D_272_77 : decode J_272.2.2.1 77 = .ok (.aload_n 0, 1) := dzq_42 (by decide +kernel)
theorem D_272_78 : decode J_272.2.2.1 78 = .ok (.bipush 91, 2) := dzq_16 (by decide +kernel)
theorem D_272_80 : decode J_272.2.2.1 80 = .ok (.invokevirtual 381, 3) := dzq_182 (by decide +kernel)
theorem D_272_83 : decode J_272.2.2.1 83 = .ok (.aload_n 0, 1) := dzq_42 (by decide +kernel)
theorem D_272_84 : decode J_272.2.2.1 84 = .ok (.getfield 333, 3) := dzq_180 (by decide +kernel)
theorem D_272_87 : decode J_272.2.2.1 87 = .ok (.ifCond .ne 7, 3) := dzq_154 (by decide +kernel)
theorem D_272_90 : decode J_272.2.2.1 90 = .ok (.iconst 1, 1) := dzq_4 (by decide +kernel)
theorem D_272_91 : decode J_272.2.2.1 91 = .ok (.goto 4, 3) := dzq_167 (by decide +kernel)
theorem D_272_94 : decode J_272.2.2.1 94 = .ok (.iconst 0, 1) := dzq_3 (by decide +kernel)
theorem D_272_95 : decode J_272.2.2.1 95 = .ok (.istore_n 2, 1) := dzq_61 (by decide +kernel)
theorem D_272_96 : decode J_272.2.2.1 96 = .ok (.iload_n 2, 1) := dzq_28 (by decide +kernel)
theorem D_272_97 : decode J_272.2.2.1 97 = .ok (.ifCond .eq 173, 3) := dzq_153 (by decide +kernel)
theorem D_272_100 : decode J_272.2.2.1 100 = .ok (.aload_n 0, 1) := dzq_42 (by decide +kernel)
theorem D_272_101 : decode J_272.2.2.1 101 = .ok (.getfield 316, 3) := dzq_180 (by decide +kernel)
theorem D_272_104 : decode J_272.2.2.1 104 = .ok (.iconst 2, 1) := dzq_5 (by decide +kernel)
theorem D_272_105 : decode J_272.2.2.1 105 = .ok (.if_icmp .eq 21, 3) := dzq_159 (by decide +kernel)
theorem D_272_108 : decode J_272.2.2.1 108 = .ok (.aload_n 0, 1) := dzq_42 (by decide +kernel)
theorem D_272_109 : decode J_272.2.2.1 109 = .ok (.bipush 8, 2) := dzq_16 (by decide +kernel)
theorem D_272_111 : decode J_272.2.2.1 111 = .ok (.invokevirtual 363, 3) := dzq_182 (by decide +kernel)
theorem D_272_114 : decode J_272.2.2.1 114 = .ok (.ifCond .ne 12, 3) := dzq_154 (by decide +kernel)
theorem D_272_117 : decode J_272.2.2.1 117 = .ok (.aload_n 0, 1) := dzq_42 (by decide +kernel)
theorem D_272_118 : decode J_272.2.2.1 118 = .ok (.bipush 9, 2) := dzq_16 (by decide +kernel)
theorem D_272_120 : decode J_272.2.2.1 120 = .ok (.invokevirtual 363, 3) := dzq_182 (by decide +kernel)
theorem D_272_123 : decode J_272.2.2.1 123 = .ok (.ifCond .eq 7, 3) := dzq_153 (by decide +kernel)
theorem D_272_126 : decode J_272.2.2.1 126 = .ok (.iconst 1, 1) := dzq_4 (by decide +kernel)
theorem D_272_127 : decode J_272.2.2.1 127 = .ok (.goto 4, 3) := dzq_167 (by decide +kernel)
theorem D_272_130 : decode J_272.2.2.1 130 = .ok (.iconst 0, 1) := dzq_3 (by decide +kernel)
theorem D_272_131 : decode J_272.2.2.1 131 = .ok (.istore_n 3, 1) := dzq_62 (by decide +kernel)
theorem D_272_132 : decode J_272.2.2.1 132 = .ok (.iload_n 3, 1) := dzq_29 (by decide +kernel)
theorem D_272_133 : decode J_272.2.2.1 133 = .ok (.ifCond .ne 10, 3) := dzq_154 (by decide +kernel)
theorem D_272_136 : decode J_272.2.2.1 136 = .ok (.aload_n 0, 1) := dzq_42 (by decide +kernel)
theorem D_272_137 : decode J_272.2.2.1 137 = .ok (.invokevirtual 347, 3) := dzq_182 (by decide +kernel)
theorem D_272_140 : decode J_272.2.2.1 140 = .ok (.goto 22, 3) := dzq_167 (by decide +kernel)
theorem D_272_143 : decode J_272.2.2.1 143 = .ok (.aload_n 0, 1) := dzq_42 (by decide +kernel)
theorem D_272_144 : decode J_272.2.2.1 144 = .ok (.getfield 133, 3) := dzq_180 (by decide +kernel)
theorem D_272_147 : decode J_272.2.2.1 147 = .ok (.iload_n 1, 1) := dzq_27 (by decide +kernel)
theorem D_272_148 : decode J_272.2.2.1 148 = .ok (.iaload, 1) := dzq_46 (by decide +kernel)
theorem D_272_149 : decode J_272.2.2.1 149 = .ok (.iconst 5, 1) := dzq_8 (by decide +kernel)
theorem D_272_150 : decode J_272.2.2.1 150 = .ok (.if_icmp .ne 12, 3) := dzq_160 (by decide +kernel)
theorem D_272_153 : decode J_272.2.2.1 153 = .ok (.aload_n 0, 1) := dzq_42 (by decide +kernel)
theorem D_272_154 : decode J_272.2.2.1 154 = .ok (.iconst 3, 1) := dzq_6 (by decide +kernel)
theorem D_272_155 : decode J_272.2.2.1 155 = .ok (.aload_n 0, 1) := dzq_42 (by decide +kernel)
theorem D_272_156 : decode J_272.2.2.1 156 = .ok (.getfield 310, 3) := dzq_180 (by decide +kernel)
theorem D_272_159 : decode J_272.2.2.1 159 = .ok (.invokevirtual 339, 3) := dzq_182 (by decide +kernel)
theorem D_272_162 : decode J_272.2.2.1 162 = .ok (.aload_n 0, 1) := dzq_42 (by decide +kernel)
theorem D_272_163 : decode J_272.2.2.1 163 = .ok (.getfield 333, 3) := dzq_180 (by decide +kernel)
theorem D_272_166 : decode J_272.2.2.1 166 = .ok (.ifCond .le 5, 3) := dzq_158 (by decide +kernel)
theorem D_272_169 : decode J_272.2.2.1 169 = .ok (.iconst (-1), 1) := dzq_2 (by decide +kernel)
theorem D_272_170 : decode J_272.2.2.1 170 = .ok (.ireturn, 1) := dzq_172 (by decide +kernel)
theorem D_272_171 : decode J_272.2.2.1 171 = .ok (.aload_n 0, 1) := dzq_42 (by decide +kernel)
theorem D_272_172 : decode J_272.2.2.1 172 = .ok (.getfield 139, 3) := dzq_180 (by decide +kernel)
theorem D_272_175 : decode J_272.2.2.1 175 = .ok (.iconst 5, 1) := dzq_8 (by decide +kernel)
theorem D_272_176 : decode J_272.2.2.1 176 = .ok (.iload_n 1, 1) := dzq_27 (by decide +kernel)
theorem D_272_177 : decode J_272.2.2.1 177 = .ok (.imul, 1) := dzq_104 (by decide +kernel)
theorem D_272_178 : decode J_272.2.2.1 178 = .ok (.aload_n 0, 1) := dzq_42 (by decide +kernel)
theorem D_272_179 : decode J_272.2.2.1 179 = .ok (.getfield 133, 3) := dzq_180 (by decide +kernel)
theorem D_272_182 : decode J_272.2.2.1 182 = .ok (.iload_n 1, 1) := dzq_27 (by decide +kernel)
theorem D_272_183 : decode J_272.2.2.1 183 = .ok (.iaload, 1) := dzq_46 (by decide +kernel)
theorem D_272_184 : decode J_272.2.2.1 184 = .ok (.iadd, 1) := dzq_96 (by decide +kernel)
theorem D_272_185 : decode J_272.2.2.1 185 = .ok (.aload_n 0, 1) := dzq_42 (by decide +kernel)
theorem D_272_186 : decode J_272.2.2.1 186 = .ok (.getfield 316, 3) := dzq_180 (by decide +kernel)
theorem D_272_189 : decode J_272.2.2.1 189 = .ok (.iconst 2, 1) := dzq_5 (by decide +kernel)
theorem D_272_190 : decode J_272.2.2.1 190 = .ok (.if_icmp .ne 10, 3) := dzq_160 (by decide +kernel)
theorem D_272_193 : decode J_272.2.2.1 193 = .ok (.aload_n 0, 1) := dzq_42 (by decide +kernel)
theorem D_272_194 : decode J_272.2.2.1 194 = .ok (.getfield 322, 3) := dzq_180 (by decide +kernel)
theorem D_272_197 : decode J_272.2.2.1 197 = .ok (.goto 21, 3) := dzq_167 (by decide +kernel)
theorem D_272_200 : decode J_272.2.2.1 200 = .ok (.aload_n 0, 1) := dzq_42 (by decide +kernel)
theorem D_272_201 : decode J_272.2.2.1 201 = .ok (.bipush 8, 2) := dzq_16 (by decide +kernel)
theorem D_272_203 : decode J_272.2.2.1 203 = .ok (.invokevirtual 363, 3) := dzq_182 (by decide +kernel)
theorem D_272_206 : decode J_272.2.2.1 206 = .ok (.ifCond .eq 9, 3) := dzq_153 (by decide +kernel)
theorem D_272_209 : decode J_272.2.2.1 209 = .ok (.ldc2_w 400, 3) := by decide +kernel
theorem D_272_212 : decode J_272.2.2.1 212 = .ok (.goto 6, 3) := dzq_167 (by decide +kernel)
theorem D_272_215 : decode J_272.2.2.1 215 = .ok (.ldc2_w 402, 3) := by decide +kernel
theorem D_272_218 : decode J_272.2.2.1 218 = .ok (.lastore, 1) := by decide +kernel
theorem D_272_219 : decode J_272.2.2.1 219 = .ok (.aload_n 0, 1) := dzq_42 (by decide +kernel)
theorem D_272_220 : decode J_272.2.2.1 220 = .ok (.getfield 142, 3) := dzq_180 (by decide +kernel)
theorem D_272_223 : decode J_272.2.2.1 223 = .ok (.iconst 5, 1) := dzq_8 (by decide +kernel)
theorem D_272_224 : decode J_272.2.2.1 224 = .ok (.iload_n 1, 1) := dzq_27 (by decide +kernel)
theorem D_272_225 : decode J_272.2.2.1 225 = .ok (.imul, 1) := dzq_104 (by decide +kernel)
theorem D_272_226 : decode J_272.2.2.1 226 = .ok (.aload_n 0, 1) := dzq_42 (by decide +kernel)
theorem D_272_227 : decode J_272.2.2.1 227 = .ok (.getfield 133, 3) := dzq_180 (by decide +kernel)
theorem D_272_230 : decode J_272.2.2.1 230 = .ok (.iload_n 1, 1) := dzq_27 (by decide +kernel)
theorem D_272_231 : decode J_272.2.2.1 231 = .ok (.iaload, 1) := dzq_46 (by decide +kernel)
theorem D_272_232 : decode J_272.2.2.1 232 = .ok (.iadd, 1) := dzq_96 (by decide +kernel)
theorem D_272_233 : decode J_272.2.2.1 233 = .ok (.aload_n 0, 1) := dzq_42 (by decide +kernel)
theorem D_272_234 : decode J_272.2.2.1 234 = .ok (.getfield 310, 3) := dzq_180 (by decide +kernel)
theorem D_272_237 : decode J_272.2.2.1 237 = .ok (.iastore, 1) := dzq_79 (by decide +kernel)
theorem D_272_238 : decode J_272.2.2.1 238 = .ok (.aload_n 0, 1) := dzq_42 (by decide +kernel)
theorem D_272_239 : decode J_272.2.2.1 239 = .ok (.getfield 133, 3) := dzq_180 (by decide +kernel)
theorem D_272_242 : decode J_272.2.2.1 242 = .ok (.iload_n 1, 1) := dzq_27 (by decide +kernel)
theorem D_272_243 : decode J_272.2.2.1 243 = .ok (.dup2, 1) := by decide +kernel
theorem D_272_244 : decode J_272.2.2.1 244 = .ok (.iaload, 1) := dzq_46 (by decide +kernel)
theorem D_272_245 : decode J_272.2.2.1 245 = .ok (.iconst 1, 1) := dzq_4 (by decide +kernel)
theorem D_272_246 : decode J_272.2.2.1 246 = .ok (.iadd, 1) := dzq_96 (by decide +kernel)
theorem D_272_247 : decode J_272.2.2.1 247 = .ok (.iastore, 1) := dzq_79 (by decide +kernel)
theorem D_272_248 : decode J_272.2.2.1 248 = .ok (.aload_n 0, 1) := dzq_42 (by decide +kernel)
theorem D_272_249 : decode J_272.2.2.1 249 = .ok (.invokevirtual 350, 3) := dzq_182 (by decide +kernel)
theorem D_272_252 : decode J_272.2.2.1 252 = .ok (.aload_n 0, 1) := dzq_42 (by decide +kernel)
theorem D_272_253 : decode J_272.2.2.1 253 = .ok (.bipush 44, 2) := dzq_16 (by decide +kernel)
theorem D_272_255 : decode J_272.2.2.1 255 = .ok (.invokevirtual 343, 3) := dzq_182 (by decide +kernel)
theorem D_272_258 : decode J_272.2.2.1 258 = .ok (.istore_n 2, 1) := dzq_61 (by decide +kernel)
theorem D_272_259 : decode J_272.2.2.1 259 = .ok (.iload_n 2, 1) := dzq_28 (by decide +kernel)
theorem D_272_260 : decode J_272.2.2.1 260 = .ok (.ifCond .eq 7, 3) := dzq_153 (by decide +kernel)
theorem D_272_263 : decode J_272.2.2.1 263 = .ok (.aload_n 0, 1) := dzq_42 (by decide +kernel)
theorem D_272_264 : decode J_272.2.2.1 264 = .ok (.invokevirtual 350, 3) := dzq_182 (by decide +kernel)
theorem D_272_267 : decode J_272.2.2.1 267 = .ok (.goto (-171), 3) := dzq_167 (by decide +kernel)
theorem D_272_270 : decode J_272.2.2.1 270 = .ok (.aload_n 0, 1) := dzq_42 (by decide +kernel)
theorem D_272_271 : decode J_272.2.2.1 271 = .ok (.getfield 333, 3) := dzq_180 (by decide +kernel)
theorem D_272_274 : decode J_272.2.2.1 274 = .ok (.ifCond .ne 9, 3) := dzq_154 (by decide +kernel)
theorem D_272_277 : decode J_272.2.2.1 277 = .ok (.aload_n 0, 1) := dzq_42 (by decide +kernel)
theorem D_272_278 : decode J_272.2.2.1 278 = .ok (.bipush 93, 2) := dzq_16 (by decide +kernel)
theorem D_272_280 : decode J_272.2.2.1 280 = .ok (.invokevirtual 381, 3) := dzq_182 (by decide +kernel)
theorem D_272_283 : decode J_272.2.2.1 283 = .ok (.iload_n 1, 1) := dzq_27 (by decide +kernel)
theorem D_272_284 : decode J_272.2.2.1 284 = .ok (.ireturn, 1) := dzq_172 (by decide +kernel)
def P_272_283 (X : mjX) (d C S kc ks : Nat) (k : Int32 → mjH → mjU) : Prop := ∀ (l1 : Int32) (hp : mjH) (q : Option Value × mjH), k l1 hp = some q → mjG X d C S J_272 (mjEq q) 283 [none, some (.int l1), none, none] [] hp kc ks
def P_272_267 (X : mjX) (d C S kc ks : Nat) (k : Nat → Int32 → Int32 → mjH → mjU) : Prop := ∀ (l0 : Nat) (l1 : Int32) (l2 : Int32) (hp : mjH) (q : Option Value × mjH), k l0 l1 l2 hp = some q → mjG X d C S J_272 (mjEq q) 267 [some (.ref l0), some (.int l1), some (.int l2), none] [] hp kc ks
def P_272_218 (X : mjX) (d C S kc ks : Nat) (k : Nat → Int32 → Nat → Int32 → Int64 → mjH → mjU) : Prop := ∀ (l0 : Nat) (l1 : Int32) (s0 : Nat) (s1 : Int32) (s2 : Int64) (hp : mjH) (q : Option Value × mjH), k l0 l1 s0 s1 s2 hp = some q → mjG X d C S J_272 (mjEq q) 218 [some (.ref l0), some (.int l1), none, none] [.long s2, .int s1, .ref s0] hp kc ks
def P_272_162 (X : mjX) (d C S kc ks : Nat) (k : Nat → Int32 → mjH → mjU) : Prop := ∀ (l0 : Nat) (l1 : Int32) (hp : mjH) (q : Option Value × mjH), k l0 l1 hp = some q → mjG X d C S J_272 (mjEq q) 162 [some (.ref l0), some (.int l1), none, none] [] hp kc ks
def P_272_131 (X : mjX) (d C S kc ks : Nat) (k : Nat → Int32 → Int32 → mjH → mjU) : Prop := ∀ (l0 : Nat) (l1 : Int32) (s0 : Int32) (hp : mjH) (q : Option Value × mjH), k l0 l1 s0 hp = some q → mjG X d C S J_272 (mjEq q) 131 [some (.ref l0), some (.int l1), none, none] [.int s0] hp kc ks
def P_272_126 (X : mjX) (d C S kc ks : Nat) (k : Nat → Int32 → mjH → mjU) : Prop := ∀ (l0 : Nat) (l1 : Int32) (hp : mjH) (q : Option Value × mjH), k l0 l1 hp = some q → mjG X d C S J_272 (mjEq q) 126 [some (.ref l0), some (.int l1), none, none] [] hp kc ks
def P_272_96 (X : mjX) (d C S kc ks : Nat) (k : Nat → Int32 → Int32 → mjH → mjU) : Prop := ∀ (l0 : Nat) (l1 : Int32) (l2 : Int32) (hp : mjH) (q : Option Value × mjH), k l0 l1 l2 hp = some q → mjG X d C S J_272 (mjEq q) 96 [some (.ref l0), some (.int l1), some (.int l2), none] [] hp kc ks
def P_272_95 (X : mjX) (d C S kc ks : Nat) (k : Nat → Int32 → Int32 → mjH → mjU) : Prop := ∀ (l0 : Nat) (l1 : Int32) (s0 : Int32) (hp : mjH) (q : Option Value × mjH), k l0 l1 s0 hp = some q → mjG X d C S J_272 (mjEq q) 95 [some (.ref l0), some (.int l1), none, none] [.int s0] hp kc ks
def P_272_0 (X : mjX) (d C S kc ks : Nat) (k : Nat → mjH → mjU) : Prop := ∀ (l0 : Nat) (hp : mjH) (q : Option Value × mjH), k l0 hp = some q → mjG X d C S J_272 (mjEq q) 0 [some (.ref l0), none, none, none] [] hp kc ks
noncomputable def b_272_283 (R : mjR) (l1 : Int32) (hp : mjH) : mjU := some (some (.int l1), hp)
theorem t_272_283 {X : mjX} {d C S kc ks : Nat} {R : mjR} (hR : mjC R d) (h1 : kc ≤ C) (h2 : ks ≤ S) : P_272_283 X (d + 1) C S kc ks (b_272_283 R) := by
  intro l1 hp q h
  unfold b_272_283 at h
  refine mjr_iload_n (x := l1) D_272_283 rfl ?_
  exact mjq_ret D_272_284 rfl h1 h2 h
noncomputable def b_272_267 (R : mjR) (k96 : Nat → Int32 → Int32 → mjH → mjU) (l0 : Nat) (l1 : Int32) (l2 : Int32) (hp : mjH) : mjU := k96 l0 l1 l2 hp
theorem t_272_267 {X : mjX} {d C S kc ks : Nat} {R : mjR} (hR : mjC R d) (h1 : kc ≤ C) (h2 : ks ≤ S) {k96 : Nat → Int32 → Int32 → mjH → mjU} (hk96 : P_272_96 X (d + 1) C S kc ks k96) : P_272_267 X (d + 1) C S kc ks (b_272_267 R k96) := by
  intro l0 l1 l2 hp q h
  unfold b_272_267 at h
  refine mjr_goto (tgt := 96) D_272_267 rfl ?_
  exact hk96 _ _ _ _ _ h
noncomputable def b_272_218 (R : mjR) (k96 : Nat → Int32 → Int32 → mjH → mjU) (l0 : Nat) (l1 : Int32) (s0 : Nat) (s1 : Int32) (s2 : Int64) (hp : mjH) : mjU := sL hp s0 s1 s2 (fun hp1 => gR hp1 l0 12 52 (fun v2 => gR hp1 l0 12 49 (fun v3 => aI hp1 v3 l1 (fun v4 => gI hp1 l0 12 4 (fun v5 => sI hp1 v2 (((5 : Int32) * l1) + v4) v5 (fun hp6 => gR hp6 l0 12 49 (fun v7 => aI hp6 v7 l1 (fun v8 => sI hp6 v7 l1 (v8 + (1 : Int32)) (fun hp9 => rV hp9 l0 12 (bN (R 262 [.ref l0] hp9) (fun  hp10 => rV hp10 l0 12 (bI (R 271 [.ref l0, .int (44 : Int32)] hp10) (fun v11 hp12 => (if v11 = 0 then b_272_267 R k96 l0 l1 v11 hp12 else rV hp12 l0 12 (bN (R 262 [.ref l0] hp12) (fun  hp13 => b_272_267 R k96 l0 l1 v11 hp13))))))))))))))))
theorem t_272_218 {X : mjX} {d C S kc ks : Nat} {R : mjR} (hR : mjC R d) (h1 : kc ≤ C) (h2 : ks ≤ S) {k96 : Nat → Int32 → Int32 → mjH → mjU} (hk96 : P_272_96 X (d + 1) C S kc ks k96) : P_272_218 X (d + 1) C S kc ks (b_272_218 R k96) := by
  intro l0 l1 s0 s1 s2 hp q h
  unfold b_272_218 at h
  refine mjq_sL D_272_218 h (fun hp1 h => ?_)
  refine mjr_aload_n (x := l0) D_272_219 rfl ?_
  refine mjq_gR D_272_220 fr_12_142 h (fun v2 h => ?_)
  refine mjq_ic (v := (5 : Int32)) D_272_223 rfl ?_
  refine mjr_iload_n (x := l1) D_272_224 rfl ?_
  refine mjr_imul D_272_225 ?_
  refine mjr_aload_n (x := l0) D_272_226 rfl ?_
  refine mjq_gR D_272_227 fr_12_133 h (fun v3 h => ?_)
  refine mjr_iload_n (x := l1) D_272_230 rfl ?_
  refine mjq_aI D_272_231 h (fun v4 h => ?_)
  refine mjr_iadd D_272_232 ?_
  refine mjr_aload_n (x := l0) D_272_233 rfl ?_
  refine mjq_gI D_272_234 fr_12_310 h (fun v5 h => ?_)
  refine mjq_sI D_272_237 h (fun hp6 h => ?_)
  refine mjr_aload_n (x := l0) D_272_238 rfl ?_
  refine mjq_gR D_272_239 fr_12_133 h (fun v7 h => ?_)
  refine mjr_iload_n (x := l1) D_272_242 rfl ?_
  refine mjr_dup2 D_272_243 rfl rfl ?_
  refine mjq_aI D_272_244 h (fun v8 h => ?_)
  refine mjq_ic (v := (1 : Int32)) D_272_245 rfl ?_
  refine mjr_iadd D_272_246 ?_
  refine mjq_sI D_272_247 h (fun hp9 h => ?_)
  refine mjr_aload_n (x := l0) D_272_248 rfl ?_
  refine mjq_vN (As := []) (rest := []) D_272_249 mr_12_350 V_262 rfl rfl rfl hR (Nat.le_refl _) h1 h2 h (fun  hp10 h => ?_)
  refine mjr_aload_n (x := l0) D_272_252 rfl ?_
  refine mjq_bi (v := (44 : Int32)) D_272_253 rfl ?_
  refine mjq_vI (As := [.int (44 : Int32)]) (rest := []) D_272_255 mr_12_343 V_271 rfl rfl rfl hR (Nat.le_refl _) h1 h2 h (fun v11 hp12 h => ?_)
  refine mjq_istore_n (lo' := [some (.ref l0), some (.int l1), some (.int v11), none]) D_272_258 (Nat.le_of_ble_eq_true rfl) rfl ?_
  refine mjr_iload_n (x := v11) D_272_259 rfl ?_
  refine mjq_if_eq (tgt := 267) D_272_260 rfl h (fun h => ?_) (fun h => ?_)
  · exact (t_272_267 hR h1 h2 hk96) _ _ _ _ _ h
  · refine mjr_aload_n (x := l0) D_272_263 rfl ?_
    refine mjq_vN (As := []) (rest := []) D_272_264 mr_12_350 V_262 rfl rfl rfl hR (Nat.le_refl _) h1 h2 h (fun  hp13 h => ?_)
    exact (t_272_267 hR h1 h2 hk96) _ _ _ _ _ h
noncomputable def b_272_162 (R : mjR) (k96 : Nat → Int32 → Int32 → mjH → mjU) (l0 : Nat) (l1 : Int32) (hp : mjH) : mjU := gI hp l0 12 61 (fun v1 => (if v1 ≤ 0 then gR hp l0 12 51 (fun v2 => gR hp l0 12 49 (fun v3 => aI hp v3 l1 (fun v4 => gI hp l0 12 3 (fun v5 => (if v5 = (2 : Int32) then gL hp l0 12 7 (fun v8 => b_272_218 R k96 l0 l1 v2 (((5 : Int32) * l1) + v4) v8 hp) else rV hp l0 12 (bI (R 266 [.ref l0, .int (8 : Int32)] hp) (fun v6 hp7 => (if v6 = 0 then b_272_218 R k96 l0 l1 v2 (((5 : Int32) * l1) + v4) (-1 : Int64) hp7 else b_272_218 R k96 l0 l1 v2 (((5 : Int32) * l1) + v4) (-2 : Int64) hp7)))))))) else some (some (.int (-1 : Int32)), hp)))
theorem t_272_162 {X : mjX} {d C S kc ks : Nat} {R : mjR} (hR : mjC R d) (h1 : kc ≤ C) (h2 : ks ≤ S) {k96 : Nat → Int32 → Int32 → mjH → mjU} (hk96 : P_272_96 X (d + 1) C S kc ks k96) : P_272_162 X (d + 1) C S kc ks (b_272_162 R k96) := by
  intro l0 l1 hp q h
  unfold b_272_162 at h
  refine mjr_aload_n (x := l0) D_272_162 rfl ?_
  refine mjq_gI D_272_163 fr_12_333 h (fun v1 h => ?_)
  refine mjq_if_le (tgt := 171) D_272_166 rfl h (fun h => ?_) (fun h => ?_)
  · refine mjr_aload_n (x := l0) D_272_171 rfl ?_
    refine mjq_gR D_272_172 fr_12_139 h (fun v2 h => ?_)
    refine mjq_ic (v := (5 : Int32)) D_272_175 rfl ?_
    refine mjr_iload_n (x := l1) D_272_176 rfl ?_
    refine mjr_imul D_272_177 ?_
    refine mjr_aload_n (x := l0) D_272_178 rfl ?_
    refine mjq_gR D_272_179 fr_12_133 h (fun v3 h => ?_)
    refine mjr_iload_n (x := l1) D_272_182 rfl ?_
    refine mjq_aI D_272_183 h (fun v4 h => ?_)
    refine mjr_iadd D_272_184 ?_
    refine mjr_aload_n (x := l0) D_272_185 rfl ?_
    refine mjq_gI D_272_186 fr_12_316 h (fun v5 h => ?_)
    refine mjq_ic (v := (2 : Int32)) D_272_189 rfl ?_
    refine mjq_icmp_ne (tgt := 200) D_272_190 rfl h (fun h => ?_) (fun h => ?_)
    · refine mjr_aload_n (x := l0) D_272_200 rfl ?_
      refine mjq_bi (v := (8 : Int32)) D_272_201 rfl ?_
      refine mjq_vI (As := [.int (8 : Int32)]) (rest := [.int (((5 : Int32) * l1) + v4), .ref v2]) D_272_203 mr_12_363 V_266 rfl rfl rfl hR (Nat.le_refl _) h1 h2 h (fun v6 hp7 h => ?_)
      refine mjq_if_eq (tgt := 215) D_272_206 rfl h (fun h => ?_) (fun h => ?_)
      · refine mjr_ldc2 (v := (-1 : Int64)) D_272_215 (by decide +kernel) ?_
        exact (t_272_218 hR h1 h2 hk96) _ _ _ _ _ _ _ h
      · refine mjr_ldc2 (v := (-2 : Int64)) D_272_209 (by decide +kernel) ?_
        refine mjr_goto (tgt := 218) D_272_212 rfl ?_
        exact (t_272_218 hR h1 h2 hk96) _ _ _ _ _ _ _ h
    · refine mjr_aload_n (x := l0) D_272_193 rfl ?_
      refine mjq_gL D_272_194 fr_12_322 h (fun v8 h => ?_)
      refine mjr_goto (tgt := 218) D_272_197 rfl ?_
      exact (t_272_218 hR h1 h2 hk96) _ _ _ _ _ _ _ h
  · refine mjq_ic (v := (-1 : Int32)) D_272_169 rfl ?_
    exact mjq_ret D_272_170 rfl h1 h2 h
noncomputable def b_272_131 (R : mjR) (k96 : Nat → Int32 → Int32 → mjH → mjU) (l0 : Nat) (l1 : Int32) (s0 : Int32) (hp : mjH) : mjU := (if s0 = 0 then rV hp l0 12 (bN (R 269 [.ref l0] hp) (fun  hp5 => b_272_162 R k96 l0 l1 hp5)) else gR hp l0 12 49 (fun v1 => aI hp v1 l1 (fun v2 => (if v2 = (5 : Int32) then gI hp l0 12 4 (fun v3 => rV hp l0 12 (bN (R 268 [.ref l0, .int (3 : Int32), .int v3] hp) (fun  hp4 => b_272_162 R k96 l0 l1 hp4))) else b_272_162 R k96 l0 l1 hp))))
theorem t_272_131 {X : mjX} {d C S kc ks : Nat} {R : mjR} (hR : mjC R d) (h1 : kc ≤ C) (h2 : ks ≤ S) {k96 : Nat → Int32 → Int32 → mjH → mjU} (hk96 : P_272_96 X (d + 1) C S kc ks k96) : P_272_131 X (d + 1) C S kc ks (b_272_131 R k96) := by
  intro l0 l1 s0 hp q h
  unfold b_272_131 at h
  refine mjq_istore_n (lo' := [some (.ref l0), some (.int l1), none, some (.int s0)]) D_272_131 (Nat.le_of_ble_eq_true rfl) rfl ?_
  refine mjr_iload_n (x := s0) D_272_132 rfl ?_
  refine mjq_if_ne (tgt := 143) D_272_133 rfl h (fun h => ?_) (fun h => ?_)
  · refine mjr_aload_n (x := l0) D_272_143 rfl ?_
    refine mjq_gR D_272_144 fr_12_133 h (fun v1 h => ?_)
    refine mjr_iload_n (x := l1) D_272_147 rfl ?_
    refine mjq_aI D_272_148 h (fun v2 h => ?_)
    refine mjq_ic (v := (5 : Int32)) D_272_149 rfl ?_
    refine mjq_icmp_ne (tgt := 162) D_272_150 rfl h (fun h => ?_) (fun h => ?_)
    · exact mjG.fg (lo' := [some (.ref l0), some (.int l1), none, none]) (And.intro rfl (And.intro rfl True.intro)) ((t_272_162 hR h1 h2 hk96) _ _ _ _ h)
    · refine mjr_aload_n (x := l0) D_272_153 rfl ?_
      refine mjq_ic (v := (3 : Int32)) D_272_154 rfl ?_
      refine mjr_aload_n (x := l0) D_272_155 rfl ?_
      refine mjq_gI D_272_156 fr_12_310 h (fun v3 h => ?_)
      refine mjq_vN (As := [.int (3 : Int32), .int v3]) (rest := []) D_272_159 mr_12_339 V_268 rfl rfl rfl hR (Nat.le_refl _) h1 h2 h (fun  hp4 h => ?_)
      exact mjG.fg (lo' := [some (.ref l0), some (.int l1), none, none]) (And.intro rfl (And.intro rfl True.intro)) ((t_272_162 hR h1 h2 hk96) _ _ _ _ h)
  · refine mjr_aload_n (x := l0) D_272_136 rfl ?_
    refine mjq_vN (As := []) (rest := []) D_272_137 mr_12_347 V_269 rfl rfl rfl hR (Nat.le_refl _) h1 h2 h (fun  hp5 h => ?_)
    refine mjr_goto (tgt := 162) D_272_140 rfl ?_
    exact mjG.fg (lo' := [some (.ref l0), some (.int l1), none, none]) (And.intro rfl (And.intro rfl True.intro)) ((t_272_162 hR h1 h2 hk96) _ _ _ _ h)
noncomputable def b_272_126 (R : mjR) (k96 : Nat → Int32 → Int32 → mjH → mjU) (l0 : Nat) (l1 : Int32) (hp : mjH) : mjU := b_272_131 R k96 l0 l1 (1 : Int32) hp
theorem t_272_126 {X : mjX} {d C S kc ks : Nat} {R : mjR} (hR : mjC R d) (h1 : kc ≤ C) (h2 : ks ≤ S) {k96 : Nat → Int32 → Int32 → mjH → mjU} (hk96 : P_272_96 X (d + 1) C S kc ks k96) : P_272_126 X (d + 1) C S kc ks (b_272_126 R k96) := by
  intro l0 l1 hp q h
  unfold b_272_126 at h
  refine mjq_ic (v := (1 : Int32)) D_272_126 rfl ?_
  refine mjr_goto (tgt := 131) D_272_127 rfl ?_
  exact (t_272_131 hR h1 h2 hk96) _ _ _ _ _ h
noncomputable def b_272_96 (R : mjR) (k96 : Nat → Int32 → Int32 → mjH → mjU) (l0 : Nat) (l1 : Int32) (l2 : Int32) (hp : mjH) : mjU := (if l2 = 0 then gI hp l0 12 61 (fun v1 => (if v1 = 0 then rV hp l0 12 (bN (R 270 [.ref l0, .int (93 : Int32)] hp) (fun  hp2 => b_272_283 R l1 hp2)) else b_272_283 R l1 hp)) else gI hp l0 12 3 (fun v3 => (if v3 = (2 : Int32) then b_272_126 R k96 l0 l1 hp else rV hp l0 12 (bI (R 266 [.ref l0, .int (8 : Int32)] hp) (fun v4 hp5 => (if v4 = 0 then rV hp5 l0 12 (bI (R 266 [.ref l0, .int (9 : Int32)] hp5) (fun v6 hp7 => (if v6 = 0 then b_272_131 R k96 l0 l1 (0 : Int32) hp7 else b_272_126 R k96 l0 l1 hp7))) else b_272_126 R k96 l0 l1 hp5))))))
theorem t_272_96 {X : mjX} {d C S kc ks : Nat} {R : mjR} (hR : mjC R d) (h1 : kc ≤ C) (h2 : ks ≤ S) {k96 : Nat → Int32 → Int32 → mjH → mjU} (hk96 : P_272_96 X (d + 1) C S kc ks k96) : P_272_96 X (d + 1) C S kc ks (b_272_96 R k96) := by
  intro l0 l1 l2 hp q h
  unfold b_272_96 at h
  refine mjr_iload_n (x := l2) D_272_96 rfl ?_
  refine mjq_if_eq (tgt := 270) D_272_97 rfl h (fun h => ?_) (fun h => ?_)
  · refine mjr_aload_n (x := l0) D_272_270 rfl ?_
    refine mjq_gI D_272_271 fr_12_333 h (fun v1 h => ?_)
    refine mjq_if_ne (tgt := 283) D_272_274 rfl h (fun h => ?_) (fun h => ?_)
    · exact mjG.fg (lo' := [none, some (.int l1), none, none]) (And.intro rfl True.intro) ((t_272_283 hR h1 h2) _ _ _ h)
    · refine mjr_aload_n (x := l0) D_272_277 rfl ?_
      refine mjq_bi (v := (93 : Int32)) D_272_278 rfl ?_
      refine mjq_vN (As := [.int (93 : Int32)]) (rest := []) D_272_280 mr_12_381 V_270 rfl rfl rfl hR (Nat.le_refl _) h1 h2 h (fun  hp2 h => ?_)
      exact mjG.fg (lo' := [none, some (.int l1), none, none]) (And.intro rfl True.intro) ((t_272_283 hR h1 h2) _ _ _ h)
  · refine mjr_aload_n (x := l0) D_272_100 rfl ?_
    refine mjq_gI D_272_101 fr_12_316 h (fun v3 h => ?_)
    refine mjq_ic (v := (2 : Int32)) D_272_104 rfl ?_
    refine mjq_icmp_eq (tgt := 126) D_272_105 rfl h (fun h => ?_) (fun h => ?_)
    · exact mjG.fg (lo' := [some (.ref l0), some (.int l1), none, none]) (And.intro rfl (And.intro rfl True.intro)) ((t_272_126 hR h1 h2 hk96) _ _ _ _ h)
    · refine mjr_aload_n (x := l0) D_272_108 rfl ?_
      refine mjq_bi (v := (8 : Int32)) D_272_109 rfl ?_
      refine mjq_vI (As := [.int (8 : Int32)]) (rest := []) D_272_111 mr_12_363 V_266 rfl rfl rfl hR (Nat.le_refl _) h1 h2 h (fun v4 hp5 h => ?_)
      refine mjq_if_ne (tgt := 126) D_272_114 rfl h (fun h => ?_) (fun h => ?_)
      · exact mjG.fg (lo' := [some (.ref l0), some (.int l1), none, none]) (And.intro rfl (And.intro rfl True.intro)) ((t_272_126 hR h1 h2 hk96) _ _ _ _ h)
      · refine mjr_aload_n (x := l0) D_272_117 rfl ?_
        refine mjq_bi (v := (9 : Int32)) D_272_118 rfl ?_
        refine mjq_vI (As := [.int (9 : Int32)]) (rest := []) D_272_120 mr_12_363 V_266 rfl rfl rfl hR (Nat.le_refl _) h1 h2 h (fun v6 hp7 h => ?_)
        refine mjq_if_eq (tgt := 130) D_272_123 rfl h (fun h => ?_) (fun h => ?_)
        · refine mjq_ic (v := (0 : Int32)) D_272_130 rfl ?_
          exact mjG.fg (lo' := [some (.ref l0), some (.int l1), none, none]) (And.intro rfl (And.intro rfl True.intro)) ((t_272_131 hR h1 h2 hk96) _ _ _ _ _ h)
        · exact mjG.fg (lo' := [some (.ref l0), some (.int l1), none, none]) (And.intro rfl (And.intro rfl True.intro)) ((t_272_126 hR h1 h2 hk96) _ _ _ _ h)
noncomputable def L_272_96 (R : mjR) (n : Nat) : Nat → Int32 → Int32 → mjH → mjU := Nat.rec (motive := fun _ => Nat → Int32 → Int32 → mjH → mjU) (fun _ _ _ _ => none) (fun _ self => b_272_96 R self) n
theorem T_272_96 {X : mjX} {d C S kc ks : Nat} {R : mjR} (hR : mjC R d) (h1 : kc ≤ C) (h2 : ks ≤ S) (n : Nat) : P_272_96 X (d + 1) C S kc ks (L_272_96 R n) := by
  induction n with
  | zero => intro _ _ _ _ _ h; exact mj_no h
  | succ n ih => exact t_272_96 hR h1 h2 ih
noncomputable def b_272_95 (R : mjR) (l0 : Nat) (l1 : Int32) (s0 : Int32) (hp : mjH) : mjU := L_272_96 R mjN l0 l1 s0 hp
theorem t_272_95 {X : mjX} {d C S kc ks : Nat} {R : mjR} (hR : mjC R d) (h1 : kc ≤ C) (h2 : ks ≤ S) : P_272_95 X (d + 1) C S kc ks (b_272_95 R) := by
  intro l0 l1 s0 hp q h
  unfold b_272_95 at h
  refine mjq_istore_n (lo' := [some (.ref l0), some (.int l1), some (.int s0), none]) D_272_95 (Nat.le_of_ble_eq_true rfl) rfl ?_
  exact (T_272_96 hR h1 h2 mjN) _ _ _ _ _ h
noncomputable def b_272_0 (R : mjR) (l0 : Nat) (hp : mjH) : mjU := gI hp l0 12 3 (fun v1 => (if v1 = (1 : Int32) then gI hp l0 12 63 (fun v2 => gR hp l0 12 32 (fun v3 => gI hp l0 12 63 (fun v4 => aI hp v3 v4 (fun v5 => gR hp l0 12 32 (fun v6 => gI hp l0 12 63 (fun v7 => aI hp v6 v7 (fun v8 => sI hp v6 v7 (v8 + (1 : Int32)) (fun hp9 => gR hp9 l0 12 47 (fun v10 => gL hp9 l0 12 7 (fun v11 => sL hp9 v10 (((800 : Int32) * v2) + v5) v11 (fun hp12 => gR hp12 l0 12 48 (fun v13 => gI hp12 l0 12 4 (fun v14 => sI hp12 v13 (((800 : Int32) * v2) + v5) v14 (fun hp15 => gR hp15 l0 12 49 (fun v16 => sI hp15 v16 (((800 : Int32) * v2) + v5) (0 : Int32) (fun hp17 => rV hp17 l0 12 (bN (R 262 [.ref l0] hp17) (fun  hp18 => rV hp18 l0 12 (bN (R 270 [.ref l0, .int (91 : Int32)] hp18) (fun  hp19 => gI hp19 l0 12 61 (fun v20 => (if v20 = 0 then b_272_95 R l0 (((800 : Int32) * v2) + v5) (1 : Int32) hp19 else b_272_95 R l0 (((800 : Int32) * v2) + v5) (0 : Int32) hp19)))))))))))))))))))))) else rV hp l0 12 (bN (R 269 [.ref l0] hp) (fun  hp21 => some (some (.int (-1 : Int32)), hp21)))))
theorem t_272_0 {X : mjX} {d C S kc ks : Nat} {R : mjR} (hR : mjC R d) (h1 : kc ≤ C) (h2 : ks ≤ S) : P_272_0 X (d + 1) C S kc ks (b_272_0 R) := by
  intro l0 hp q h
  unfold b_272_0 at h
  refine mjr_aload_n (x := l0) D_272_0 rfl ?_
  refine mjq_gI D_272_1 fr_12_316 h (fun v1 h => ?_)
  refine mjq_ic (v := (1 : Int32)) D_272_4 rfl ?_
  refine mjq_icmp_eq (tgt := 14) D_272_5 rfl h (fun h => ?_) (fun h => ?_)
  · refine mjq_si (v := (800 : Int32)) D_272_14 rfl ?_
    refine mjr_aload_n (x := l0) D_272_17 rfl ?_
    refine mjq_gI D_272_18 fr_12_356 h (fun v2 h => ?_)
    refine mjr_imul D_272_21 ?_
    refine mjr_aload_n (x := l0) D_272_22 rfl ?_
    refine mjq_gR D_272_23 fr_12_82 h (fun v3 h => ?_)
    refine mjr_aload_n (x := l0) D_272_26 rfl ?_
    refine mjq_gI D_272_27 fr_12_356 h (fun v4 h => ?_)
    refine mjq_aI D_272_30 h (fun v5 h => ?_)
    refine mjr_iadd D_272_31 ?_
    refine mjq_istore_n (lo' := [some (.ref l0), some (.int (((800 : Int32) * v2) + v5)), none, none]) D_272_32 (Nat.le_of_ble_eq_true rfl) rfl ?_
    refine mjr_aload_n (x := l0) D_272_33 rfl ?_
    refine mjq_gR D_272_34 fr_12_82 h (fun v6 h => ?_)
    refine mjr_aload_n (x := l0) D_272_37 rfl ?_
    refine mjq_gI D_272_38 fr_12_356 h (fun v7 h => ?_)
    refine mjr_dup2 D_272_41 rfl rfl ?_
    refine mjq_aI D_272_42 h (fun v8 h => ?_)
    refine mjq_ic (v := (1 : Int32)) D_272_43 rfl ?_
    refine mjr_iadd D_272_44 ?_
    refine mjq_sI D_272_45 h (fun hp9 h => ?_)
    refine mjr_aload_n (x := l0) D_272_46 rfl ?_
    refine mjq_gR D_272_47 fr_12_127 h (fun v10 h => ?_)
    refine mjr_iload_n (x := (((800 : Int32) * v2) + v5)) D_272_50 rfl ?_
    refine mjr_aload_n (x := l0) D_272_51 rfl ?_
    refine mjq_gL D_272_52 fr_12_322 h (fun v11 h => ?_)
    refine mjq_sL D_272_55 h (fun hp12 h => ?_)
    refine mjr_aload_n (x := l0) D_272_56 rfl ?_
    refine mjq_gR D_272_57 fr_12_130 h (fun v13 h => ?_)
    refine mjr_iload_n (x := (((800 : Int32) * v2) + v5)) D_272_60 rfl ?_
    refine mjr_aload_n (x := l0) D_272_61 rfl ?_
    refine mjq_gI D_272_62 fr_12_310 h (fun v14 h => ?_)
    refine mjq_sI D_272_65 h (fun hp15 h => ?_)
    refine mjr_aload_n (x := l0) D_272_66 rfl ?_
    refine mjq_gR D_272_67 fr_12_133 h (fun v16 h => ?_)
    refine mjr_iload_n (x := (((800 : Int32) * v2) + v5)) D_272_70 rfl ?_
    refine mjq_ic (v := (0 : Int32)) D_272_71 rfl ?_
    refine mjq_sI D_272_72 h (fun hp17 h => ?_)
    refine mjr_aload_n (x := l0) D_272_73 rfl ?_
    refine mjq_vN (As := []) (rest := []) D_272_74 mr_12_350 V_262 rfl rfl rfl hR (Nat.le_refl _) h1 h2 h (fun  hp18 h => ?_)
    refine mjr_aload_n (x := l0) D_272_77 rfl ?_
    refine mjq_bi (v := (91 : Int32)) D_272_78 rfl ?_
    refine mjq_vN (As := [.int (91 : Int32)]) (rest := []) D_272_80 mr_12_381 V_270 rfl rfl rfl hR (Nat.le_refl _) h1 h2 h (fun  hp19 h => ?_)
    refine mjr_aload_n (x := l0) D_272_83 rfl ?_
    refine mjq_gI D_272_84 fr_12_333 h (fun v20 h => ?_)
    refine mjq_if_ne (tgt := 94) D_272_87 rfl h (fun h => ?_) (fun h => ?_)
    · refine mjq_ic (v := (0 : Int32)) D_272_94 rfl ?_
      exact (t_272_95 hR h1 h2) _ _ _ _ _ h
    · refine mjq_ic (v := (1 : Int32)) D_272_90 rfl ?_
      refine mjr_goto (tgt := 95) D_272_91 rfl ?_
      exact (t_272_95 hR h1 h2) _ _ _ _ _ h
  · refine mjr_aload_n (x := l0) D_272_8 rfl ?_
    refine mjq_vN (As := []) (rest := []) D_272_9 mr_12_347 V_269 rfl rfl rfl hR (Nat.le_refl _) h1 h2 h (fun  hp21 h => ?_)
    refine mjq_ic (v := (-1 : Int32)) D_272_12 rfl ?_
    exact mjq_ret D_272_13 rfl h1 h2 h
noncomputable def f_272 (R : mjR) (a0 : Nat) (hp : mjH) : mjU := b_272_0 R a0 hp
theorem c_272 {R : mjR} {d : Nat} (hR : mjC R d) {a0 : Nat} {hp : mjH} {q : Option Value × mjH} (h : f_272 R a0 hp = some q) : mjM (d + 1) 0 0 272 [.ref a0] hp (mjEq q) :=
  mjM_of Ja_272 (Nat.le_of_ble_eq_true rfl) (mjG.fg (lo' := [some (.ref a0), none, none, none]) (And.intro rfl True.intro) ((t_272_0 hR (Nat.le_refl 0) (Nat.le_refl 0)) a0 hp q h))
def J_273 : mjI := (⟨"OwnerHeapModel", "readIns", "(I)V"⟩, 12, prog_14_method_20_code, 4, none, 1, false)
theorem Ja_273 : mjMt 273 = some J_273 := by rfl
theorem D_273_0 : decode J_273.2.2.1 0 = .ok (.aload_n 0, 1) := dzq_42 (by decide +kernel)
theorem D_273_1 : decode J_273.2.2.1 1 = .ok (.invokevirtual 350, 3) := dzq_182 (by decide +kernel)
theorem D_273_4 : decode J_273.2.2.1 4 = .ok (.iconst 1, 1) := dzq_4 (by decide +kernel)
theorem D_273_5 : decode J_273.2.2.1 5 = .ok (.istore_n 2, 1) := dzq_61 (by decide +kernel)
theorem D_273_6 : decode J_273.2.2.1 6 = .ok (.iload_n 2, 1) := dzq_28 (by decide +kernel)
theorem D_273_7 : decode J_273.2.2.1 7 = .ok (.ifCond .eq 171, 3) := dzq_153 (by decide +kernel)
theorem D_273_10 : decode J_273.2.2.1 10 = .ok (.aload_n 0, 1) := dzq_42 (by decide +kernel)
theorem D_273_11 : decode J_273.2.2.1 11 = .ok (.getfield 333, 3) := dzq_180 (by decide +kernel)
theorem D_273_14 : decode J_273.2.2.1 14 = .ok (.ifCond .ne 164, 3) := dzq_154 (by decide +kernel)
theorem D_273_17 : decode J_273.2.2.1 17 = .ok (.bipush 8, 2) := dzq_16 (by decide +kernel)
theorem D_273_19 : decode J_273.2.2.1 19 = .ok (.iload_n 1, 1) := dzq_27 (by decide +kernel)
theorem D_273_20 : decode J_273.2.2.1 20 = .ok (.imul, 1) := dzq_104 (by decide +kernel)
theorem D_273_21 : decode J_273.2.2.1 21 = .ok (.aload_n 0, 1) := dzq_42 (by decide +kernel)
theorem D_273_22 : decode J_273.2.2.1 22 = .ok (.getfield 36, 3) := dzq_180 (by decide +kernel)
theorem D_273_25 : decode J_273.2.2.1 25 = .ok (.iload_n 1, 1) := dzq_27 (by decide +kernel)
theorem D_273_26 : decode J_273.2.2.1 26 = .ok (.iaload, 1) := dzq_46 (by decide +kernel)
theorem D_273_27 : decode J_273.2.2.1 27 = .ok (.iadd, 1) := dzq_96 (by decide +kernel)
theorem D_273_28 : decode J_273.2.2.1 28 = .ok (.istore_n 3, 1) := dzq_62 (by decide +kernel)
theorem D_273_29 : decode J_273.2.2.1 29 = .ok (.aload_n 0, 1) := dzq_42 (by decide +kernel)
theorem D_273_30 : decode J_273.2.2.1 30 = .ok (.getfield 316, 3) := dzq_180 (by decide +kernel)
theorem D_273_33 : decode J_273.2.2.1 33 = .ok (.iconst 2, 1) := dzq_5 (by decide +kernel)
theorem D_273_34 : decode J_273.2.2.1 34 = .ok (.if_icmp .eq 10, 3) := dzq_159 (by decide +kernel)
theorem D_273_37 : decode J_273.2.2.1 37 = .ok (.aload_n 0, 1) := dzq_42 (by decide +kernel)
theorem D_273_38 : decode J_273.2.2.1 38 = .ok (.invokevirtual 347, 3) := dzq_182 (by decide +kernel)
theorem D_273_41 : decode J_273.2.2.1 41 = .ok (.goto 23, 3) := dzq_167 (by decide +kernel)
theorem D_273_44 : decode J_273.2.2.1 44 = .ok (.aload_n 0, 1) := dzq_42 (by decide +kernel)
theorem D_273_45 : decode J_273.2.2.1 45 = .ok (.getfield 36, 3) := dzq_180 (by decide +kernel)
theorem D_273_48 : decode J_273.2.2.1 48 = .ok (.iload_n 1, 1) := dzq_27 (by decide +kernel)
theorem D_273_49 : decode J_273.2.2.1 49 = .ok (.iaload, 1) := dzq_46 (by decide +kernel)
theorem D_273_50 : decode J_273.2.2.1 50 = .ok (.bipush 8, 2) := dzq_16 (by decide +kernel)
theorem D_273_52 : decode J_273.2.2.1 52 = .ok (.if_icmp .ne 12, 3) := dzq_160 (by decide +kernel)
theorem D_273_55 : decode J_273.2.2.1 55 = .ok (.aload_n 0, 1) := dzq_42 (by decide +kernel)
theorem D_273_56 : decode J_273.2.2.1 56 = .ok (.iconst 3, 1) := dzq_6 (by decide +kernel)
theorem D_273_57 : decode J_273.2.2.1 57 = .ok (.aload_n 0, 1) := dzq_42 (by decide +kernel)
theorem D_273_58 : decode J_273.2.2.1 58 = .ok (.getfield 310, 3) := dzq_180 (by decide +kernel)
theorem D_273_61 : decode J_273.2.2.1 61 = .ok (.invokevirtual 339, 3) := dzq_182 (by decide +kernel)
theorem D_273_64 : decode J_273.2.2.1 64 = .ok (.aload_n 0, 1) := dzq_42 (by decide +kernel)
theorem D_273_65 : decode J_273.2.2.1 65 = .ok (.getfield 333, 3) := dzq_180 (by decide +kernel)
theorem D_273_68 : decode J_273.2.2.1 68 = .ok (.ifCond .le 4, 3) := dzq_158 (by decide +kernel)
theorem D_273_71 : decode J_273.2.2.1 71 = .ok (.return_, 1) := dzq_177 (by decide +kernel)
theorem D_273_72 : decode J_273.2.2.1 72 = .ok (.aload_n 0, 1) := dzq_42 (by decide +kernel)
theorem D_273_73 : decode J_273.2.2.1 73 = .ok (.getfield 57, 3) := dzq_180 (by decide +kernel)
theorem D_273_76 : decode J_273.2.2.1 76 = .ok (.iload_n 3, 1) := dzq_29 (by decide +kernel)
theorem D_273_77 : decode J_273.2.2.1 77 = .ok (.aload_n 0, 1) := dzq_42 (by decide +kernel)
theorem D_273_78 : decode J_273.2.2.1 78 = .ok (.getfield 322, 3) := dzq_180 (by decide +kernel)
theorem D_273_81 : decode J_273.2.2.1 81 = .ok (.lastore, 1) := by decide +kernel
theorem D_273_82 : decode J_273.2.2.1 82 = .ok (.aload_n 0, 1) := dzq_42 (by decide +kernel)
theorem D_273_83 : decode J_273.2.2.1 83 = .ok (.getfield 63, 3) := dzq_180 (by decide +kernel)
theorem D_273_86 : decode J_273.2.2.1 86 = .ok (.iload_n 3, 1) := dzq_29 (by decide +kernel)
theorem D_273_87 : decode J_273.2.2.1 87 = .ok (.aload_n 0, 1) := dzq_42 (by decide +kernel)
theorem D_273_88 : decode J_273.2.2.1 88 = .ok (.getfield 310, 3) := dzq_180 (by decide +kernel)
theorem D_273_91 : decode J_273.2.2.1 91 = .ok (.iastore, 1) := dzq_79 (by decide +kernel)
theorem D_273_92 : decode J_273.2.2.1 92 = .ok (.aload_n 0, 1) := dzq_42 (by decide +kernel)
theorem D_273_93 : decode J_273.2.2.1 93 = .ok (.invokevirtual 350, 3) := dzq_182 (by decide +kernel)
theorem D_273_96 : decode J_273.2.2.1 96 = .ok (.aload_n 0, 1) := dzq_42 (by decide +kernel)
theorem D_273_97 : decode J_273.2.2.1 97 = .ok (.iconst 4, 1) := dzq_7 (by decide +kernel)
theorem D_273_98 : decode J_273.2.2.1 98 = .ok (.invokevirtual 363, 3) := dzq_182 (by decide +kernel)
theorem D_273_101 : decode J_273.2.2.1 101 = .ok (.ifCond .ne 8, 3) := dzq_154 (by decide +kernel)
theorem D_273_104 : decode J_273.2.2.1 104 = .ok (.aload_n 0, 1) := dzq_42 (by decide +kernel)
theorem D_273_105 : decode J_273.2.2.1 105 = .ok (.invokevirtual 347, 3) := dzq_182 (by decide +kernel)
theorem D_273_108 : decode J_273.2.2.1 108 = .ok (.return_, 1) := dzq_177 (by decide +kernel)
theorem D_273_109 : decode J_273.2.2.1 109 = .ok (.aload_n 0, 1) := dzq_42 (by decide +kernel)
theorem D_273_110 : decode J_273.2.2.1 110 = .ok (.invokevirtual 350, 3) := dzq_182 (by decide +kernel)
theorem D_273_113 : decode J_273.2.2.1 113 = .ok (.aload_n 0, 1) := dzq_42 (by decide +kernel)
theorem D_273_114 : decode J_273.2.2.1 114 = .ok (.getfield 316, 3) := dzq_180 (by decide +kernel)
theorem D_273_117 : decode J_273.2.2.1 117 = .ok (.iconst 2, 1) := dzq_5 (by decide +kernel)
theorem D_273_118 : decode J_273.2.2.1 118 = .ok (.if_icmp .eq 8, 3) := dzq_159 (by decide +kernel)
theorem D_273_121 : decode J_273.2.2.1 121 = .ok (.aload_n 0, 1) := dzq_42 (by decide +kernel)
theorem D_273_122 : decode J_273.2.2.1 122 = .ok (.invokevirtual 347, 3) := dzq_182 (by decide +kernel)
theorem D_273_125 : decode J_273.2.2.1 125 = .ok (.return_, 1) := dzq_177 (by decide +kernel)
theorem D_273_126 : decode J_273.2.2.1 126 = .ok (.aload_n 0, 1) := dzq_42 (by decide +kernel)
theorem D_273_127 : decode J_273.2.2.1 127 = .ok (.getfield 60, 3) := dzq_180 (by decide +kernel)
theorem D_273_130 : decode J_273.2.2.1 130 = .ok (.iload_n 3, 1) := dzq_29 (by decide +kernel)
theorem D_273_131 : decode J_273.2.2.1 131 = .ok (.aload_n 0, 1) := dzq_42 (by decide +kernel)
theorem D_273_132 : decode J_273.2.2.1 132 = .ok (.getfield 322, 3) := dzq_180 (by decide +kernel)
theorem D_273_135 : decode J_273.2.2.1 135 = .ok (.lastore, 1) := by decide +kernel
theorem D_273_136 : decode J_273.2.2.1 136 = .ok (.aload_n 0, 1) := dzq_42 (by decide +kernel)
theorem D_273_137 : decode J_273.2.2.1 137 = .ok (.getfield 66, 3) := dzq_180 (by decide +kernel)
theorem D_273_140 : decode J_273.2.2.1 140 = .ok (.iload_n 3, 1) := dzq_29 (by decide +kernel)
theorem D_273_141 : decode J_273.2.2.1 141 = .ok (.aload_n 0, 1) := dzq_42 (by decide +kernel)
theorem D_273_142 : decode J_273.2.2.1 142 = .ok (.getfield 310, 3) := dzq_180 (by decide +kernel)
theorem D_273_145 : decode J_273.2.2.1 145 = .ok (.iastore, 1) := dzq_79 (by decide +kernel)
theorem D_273_146 : decode J_273.2.2.1 146 = .ok (.aload_n 0, 1) := dzq_42 (by decide +kernel)
theorem D_273_147 : decode J_273.2.2.1 147 = .ok (.getfield 36, 3) := dzq_180 (by decide +kernel)
theorem D_273_150 : decode J_273.2.2.1 150 = .ok (.iload_n 1, 1) := dzq_27 (by decide +kernel)
theorem D_273_151 : decode J_273.2.2.1 151 = .ok (.dup2, 1) := by decide +kernel
theorem D_273_152 : decode J_273.2.2.1 152 = .ok (.iaload, 1) := dzq_46 (by decide +kernel)
theorem D_273_153 : decode J_273.2.2.1 153 = .ok (.iconst 1, 1) := dzq_4 (by decide +kernel)
theorem D_273_154 : decode J_273.2.2.1 154 = .ok (.iadd, 1) := dzq_96 (by decide +kernel)
theorem D_273_155 : decode J_273.2.2.1 155 = .ok (.iastore, 1) := dzq_79 (by decide +kernel)
theorem D_273_156 : decode J_273.2.2.1 156 = .ok (.aload_n 0, 1) := dzq_42 (by decide +kernel)
theorem D_273_157 : decode J_273.2.2.1 157 = .ok (.invokevirtual 350, 3) := dzq_182 (by decide +kernel)
theorem D_273_160 : decode J_273.2.2.1 160 = .ok (.aload_n 0, 1) := dzq_42 (by decide +kernel)
theorem D_273_161 : decode J_273.2.2.1 161 = .ok (.bipush 44, 2) := dzq_16 (by decide +kernel)
theorem D_273_163 : decode J_273.2.2.1 163 = .ok (.invokevirtual 343, 3) := dzq_182 (by decide +kernel)
theorem D_273_166 : decode J_273.2.2.1 166 = .ok (.istore_n 2, 1) := dzq_61 (by decide +kernel)
theorem D_273_167 : decode J_273.2.2.1 167 = .ok (.iload_n 2, 1) := dzq_28 (by decide +kernel)
theorem D_273_168 : decode J_273.2.2.1 168 = .ok (.ifCond .eq 7, 3) := dzq_153 (by decide +kernel)
theorem D_273_171 : decode J_273.2.2.1 171 = .ok (.aload_n 0, 1) := dzq_42 (by decide +kernel)
theorem D_273_172 : decode J_273.2.2.1 172 = .ok (.invokevirtual 350, 3) := dzq_182 (by decide +kernel)
theorem D_273_175 : decode J_273.2.2.1 175 = .ok (.goto (-169), 3) := dzq_167 (by decide +kernel)
theorem D_273_178 : decode J_273.2.2.1 178 = .ok (.return_, 1) := dzq_177 (by decide +kernel)
def P_273_175 (X : mjX) (d C S kc ks : Nat) (k : Nat → Int32 → Int32 → mjH → mjU) : Prop := ∀ (l0 : Nat) (l1 : Int32) (l2 : Int32) (hp : mjH) (q : Option Value × mjH), k l0 l1 l2 hp = some q → mjG X d C S J_273 (mjEq q) 175 [some (.ref l0), some (.int l1), some (.int l2), none] [] hp kc ks
def P_273_64 (X : mjX) (d C S kc ks : Nat) (k : Nat → Int32 → Int32 → mjH → mjU) : Prop := ∀ (l0 : Nat) (l1 : Int32) (l3 : Int32) (hp : mjH) (q : Option Value × mjH), k l0 l1 l3 hp = some q → mjG X d C S J_273 (mjEq q) 64 [some (.ref l0), some (.int l1), none, some (.int l3)] [] hp kc ks
def P_273_6 (X : mjX) (d C S kc ks : Nat) (k : Nat → Int32 → Int32 → mjH → mjU) : Prop := ∀ (l0 : Nat) (l1 : Int32) (l2 : Int32) (hp : mjH) (q : Option Value × mjH), k l0 l1 l2 hp = some q → mjG X d C S J_273 (mjEq q) 6 [some (.ref l0), some (.int l1), some (.int l2), none] [] hp kc ks
def P_273_0 (X : mjX) (d C S kc ks : Nat) (k : Nat → Int32 → mjH → mjU) : Prop := ∀ (l0 : Nat) (l1 : Int32) (hp : mjH) (q : Option Value × mjH), k l0 l1 hp = some q → mjG X d C S J_273 (mjEq q) 0 [some (.ref l0), some (.int l1), none, none] [] hp kc ks
noncomputable def b_273_175 (R : mjR) (k6 : Nat → Int32 → Int32 → mjH → mjU) (l0 : Nat) (l1 : Int32) (l2 : Int32) (hp : mjH) : mjU := k6 l0 l1 l2 hp
theorem t_273_175 {X : mjX} {d C S kc ks : Nat} {R : mjR} (hR : mjC R d) (h1 : kc ≤ C) (h2 : ks ≤ S) {k6 : Nat → Int32 → Int32 → mjH → mjU} (hk6 : P_273_6 X (d + 1) C S kc ks k6) : P_273_175 X (d + 1) C S kc ks (b_273_175 R k6) := by
  intro l0 l1 l2 hp q h
  unfold b_273_175 at h
  refine mjr_goto (tgt := 6) D_273_175 rfl ?_
  exact hk6 _ _ _ _ _ h
noncomputable def b_273_64 (R : mjR) (k6 : Nat → Int32 → Int32 → mjH → mjU) (l0 : Nat) (l1 : Int32) (l3 : Int32) (hp : mjH) : mjU := gI hp l0 12 61 (fun v1 => (if v1 ≤ 0 then gR hp l0 12 24 (fun v2 => gL hp l0 12 7 (fun v3 => sL hp v2 l3 v3 (fun hp4 => gR hp4 l0 12 26 (fun v5 => gI hp4 l0 12 4 (fun v6 => sI hp4 v5 l3 v6 (fun hp7 => rV hp7 l0 12 (bN (R 262 [.ref l0] hp7) (fun  hp8 => rV hp8 l0 12 (bI (R 266 [.ref l0, .int (4 : Int32)] hp8) (fun v9 hp10 => (if v9 = 0 then rV hp10 l0 12 (bN (R 269 [.ref l0] hp10) (fun  hp27 => some (none, hp27))) else rV hp10 l0 12 (bN (R 262 [.ref l0] hp10) (fun  hp11 => gI hp11 l0 12 3 (fun v12 => (if v12 = (2 : Int32) then gR hp11 l0 12 25 (fun v13 => gL hp11 l0 12 7 (fun v14 => sL hp11 v13 l3 v14 (fun hp15 => gR hp15 l0 12 27 (fun v16 => gI hp15 l0 12 4 (fun v17 => sI hp15 v16 l3 v17 (fun hp18 => gR hp18 l0 12 17 (fun v19 => aI hp18 v19 l1 (fun v20 => sI hp18 v19 l1 (v20 + (1 : Int32)) (fun hp21 => rV hp21 l0 12 (bN (R 262 [.ref l0] hp21) (fun  hp22 => rV hp22 l0 12 (bI (R 271 [.ref l0, .int (44 : Int32)] hp22) (fun v23 hp24 => (if v23 = 0 then b_273_175 R k6 l0 l1 v23 hp24 else rV hp24 l0 12 (bN (R 262 [.ref l0] hp24) (fun  hp25 => b_273_175 R k6 l0 l1 v23 hp25)))))))))))))))) else rV hp11 l0 12 (bN (R 269 [.ref l0] hp11) (fun  hp26 => some (none, hp26)))))))))))))))))) else some (none, hp)))
theorem t_273_64 {X : mjX} {d C S kc ks : Nat} {R : mjR} (hR : mjC R d) (h1 : kc ≤ C) (h2 : ks ≤ S) {k6 : Nat → Int32 → Int32 → mjH → mjU} (hk6 : P_273_6 X (d + 1) C S kc ks k6) : P_273_64 X (d + 1) C S kc ks (b_273_64 R k6) := by
  intro l0 l1 l3 hp q h
  unfold b_273_64 at h
  refine mjr_aload_n (x := l0) D_273_64 rfl ?_
  refine mjq_gI D_273_65 fr_12_333 h (fun v1 h => ?_)
  refine mjq_if_le (tgt := 72) D_273_68 rfl h (fun h => ?_) (fun h => ?_)
  · refine mjr_aload_n (x := l0) D_273_72 rfl ?_
    refine mjq_gR D_273_73 fr_12_57 h (fun v2 h => ?_)
    refine mjr_iload_n (x := l3) D_273_76 rfl ?_
    refine mjr_aload_n (x := l0) D_273_77 rfl ?_
    refine mjq_gL D_273_78 fr_12_322 h (fun v3 h => ?_)
    refine mjq_sL D_273_81 h (fun hp4 h => ?_)
    refine mjr_aload_n (x := l0) D_273_82 rfl ?_
    refine mjq_gR D_273_83 fr_12_63 h (fun v5 h => ?_)
    refine mjr_iload_n (x := l3) D_273_86 rfl ?_
    refine mjr_aload_n (x := l0) D_273_87 rfl ?_
    refine mjq_gI D_273_88 fr_12_310 h (fun v6 h => ?_)
    refine mjq_sI D_273_91 h (fun hp7 h => ?_)
    refine mjr_aload_n (x := l0) D_273_92 rfl ?_
    refine mjq_vN (As := []) (rest := []) D_273_93 mr_12_350 V_262 rfl rfl rfl hR (Nat.le_refl _) h1 h2 h (fun  hp8 h => ?_)
    refine mjr_aload_n (x := l0) D_273_96 rfl ?_
    refine mjq_ic (v := (4 : Int32)) D_273_97 rfl ?_
    refine mjq_vI (As := [.int (4 : Int32)]) (rest := []) D_273_98 mr_12_363 V_266 rfl rfl rfl hR (Nat.le_refl _) h1 h2 h (fun v9 hp10 h => ?_)
    refine mjq_if_ne (tgt := 109) D_273_101 rfl h (fun h => ?_) (fun h => ?_)
    · refine mjr_aload_n (x := l0) D_273_109 rfl ?_
      refine mjq_vN (As := []) (rest := []) D_273_110 mr_12_350 V_262 rfl rfl rfl hR (Nat.le_refl _) h1 h2 h (fun  hp11 h => ?_)
      refine mjr_aload_n (x := l0) D_273_113 rfl ?_
      refine mjq_gI D_273_114 fr_12_316 h (fun v12 h => ?_)
      refine mjq_ic (v := (2 : Int32)) D_273_117 rfl ?_
      refine mjq_icmp_eq (tgt := 126) D_273_118 rfl h (fun h => ?_) (fun h => ?_)
      · refine mjr_aload_n (x := l0) D_273_126 rfl ?_
        refine mjq_gR D_273_127 fr_12_60 h (fun v13 h => ?_)
        refine mjr_iload_n (x := l3) D_273_130 rfl ?_
        refine mjr_aload_n (x := l0) D_273_131 rfl ?_
        refine mjq_gL D_273_132 fr_12_322 h (fun v14 h => ?_)
        refine mjq_sL D_273_135 h (fun hp15 h => ?_)
        refine mjr_aload_n (x := l0) D_273_136 rfl ?_
        refine mjq_gR D_273_137 fr_12_66 h (fun v16 h => ?_)
        refine mjr_iload_n (x := l3) D_273_140 rfl ?_
        refine mjr_aload_n (x := l0) D_273_141 rfl ?_
        refine mjq_gI D_273_142 fr_12_310 h (fun v17 h => ?_)
        refine mjq_sI D_273_145 h (fun hp18 h => ?_)
        refine mjr_aload_n (x := l0) D_273_146 rfl ?_
        refine mjq_gR D_273_147 fr_12_36 h (fun v19 h => ?_)
        refine mjr_iload_n (x := l1) D_273_150 rfl ?_
        refine mjr_dup2 D_273_151 rfl rfl ?_
        refine mjq_aI D_273_152 h (fun v20 h => ?_)
        refine mjq_ic (v := (1 : Int32)) D_273_153 rfl ?_
        refine mjr_iadd D_273_154 ?_
        refine mjq_sI D_273_155 h (fun hp21 h => ?_)
        refine mjr_aload_n (x := l0) D_273_156 rfl ?_
        refine mjq_vN (As := []) (rest := []) D_273_157 mr_12_350 V_262 rfl rfl rfl hR (Nat.le_refl _) h1 h2 h (fun  hp22 h => ?_)
        refine mjr_aload_n (x := l0) D_273_160 rfl ?_
        refine mjq_bi (v := (44 : Int32)) D_273_161 rfl ?_
        refine mjq_vI (As := [.int (44 : Int32)]) (rest := []) D_273_163 mr_12_343 V_271 rfl rfl rfl hR (Nat.le_refl _) h1 h2 h (fun v23 hp24 h => ?_)
        refine mjq_istore_n (lo' := [some (.ref l0), some (.int l1), some (.int v23), some (.int l3)]) D_273_166 (Nat.le_of_ble_eq_true rfl) rfl ?_
        refine mjr_iload_n (x := v23) D_273_167 rfl ?_
        refine mjq_if_eq (tgt := 175) D_273_168 rfl h (fun h => ?_) (fun h => ?_)
        · exact mjG.fg (lo' := [some (.ref l0), some (.int l1), some (.int v23), none]) (And.intro rfl (And.intro rfl (And.intro rfl True.intro))) ((t_273_175 hR h1 h2 hk6) _ _ _ _ _ h)
        · refine mjr_aload_n (x := l0) D_273_171 rfl ?_
          refine mjq_vN (As := []) (rest := []) D_273_172 mr_12_350 V_262 rfl rfl rfl hR (Nat.le_refl _) h1 h2 h (fun  hp25 h => ?_)
          exact mjG.fg (lo' := [some (.ref l0), some (.int l1), some (.int v23), none]) (And.intro rfl (And.intro rfl (And.intro rfl True.intro))) ((t_273_175 hR h1 h2 hk6) _ _ _ _ _ h)
      · refine mjr_aload_n (x := l0) D_273_121 rfl ?_
        refine mjq_vN (As := []) (rest := []) D_273_122 mr_12_347 V_269 rfl rfl rfl hR (Nat.le_refl _) h1 h2 h (fun  hp26 h => ?_)
        exact mjq_nret D_273_125 rfl h1 h2 h
    · refine mjr_aload_n (x := l0) D_273_104 rfl ?_
      refine mjq_vN (As := []) (rest := []) D_273_105 mr_12_347 V_269 rfl rfl rfl hR (Nat.le_refl _) h1 h2 h (fun  hp27 h => ?_)
      exact mjq_nret D_273_108 rfl h1 h2 h
  · exact mjq_nret D_273_71 rfl h1 h2 h
noncomputable def b_273_6 (R : mjR) (k6 : Nat → Int32 → Int32 → mjH → mjU) (l0 : Nat) (l1 : Int32) (l2 : Int32) (hp : mjH) : mjU := (if l2 = 0 then some (none, hp) else gI hp l0 12 61 (fun v1 => (if v1 = 0 then gR hp l0 12 17 (fun v2 => aI hp v2 l1 (fun v3 => gI hp l0 12 3 (fun v4 => (if v4 = (2 : Int32) then gR hp l0 12 17 (fun v5 => aI hp v5 l1 (fun v6 => (if v6 = (8 : Int32) then gI hp l0 12 4 (fun v7 => rV hp l0 12 (bN (R 268 [.ref l0, .int (3 : Int32), .int v7] hp) (fun  hp8 => b_273_64 R k6 l0 l1 (((8 : Int32) * l1) + v3) hp8))) else b_273_64 R k6 l0 l1 (((8 : Int32) * l1) + v3) hp))) else rV hp l0 12 (bN (R 269 [.ref l0] hp) (fun  hp9 => b_273_64 R k6 l0 l1 (((8 : Int32) * l1) + v3) hp9)))))) else some (none, hp))))
theorem t_273_6 {X : mjX} {d C S kc ks : Nat} {R : mjR} (hR : mjC R d) (h1 : kc ≤ C) (h2 : ks ≤ S) {k6 : Nat → Int32 → Int32 → mjH → mjU} (hk6 : P_273_6 X (d + 1) C S kc ks k6) : P_273_6 X (d + 1) C S kc ks (b_273_6 R k6) := by
  intro l0 l1 l2 hp q h
  unfold b_273_6 at h
  refine mjr_iload_n (x := l2) D_273_6 rfl ?_
  refine mjq_if_eq (tgt := 178) D_273_7 rfl h (fun h => ?_) (fun h => ?_)
  · exact mjq_nret D_273_178 rfl h1 h2 h
  · refine mjr_aload_n (x := l0) D_273_10 rfl ?_
    refine mjq_gI D_273_11 fr_12_333 h (fun v1 h => ?_)
    refine mjq_if_ne (tgt := 178) D_273_14 rfl h (fun h => ?_) (fun h => ?_)
    · exact mjq_nret D_273_178 rfl h1 h2 h
    · refine mjq_bi (v := (8 : Int32)) D_273_17 rfl ?_
      refine mjr_iload_n (x := l1) D_273_19 rfl ?_
      refine mjr_imul D_273_20 ?_
      refine mjr_aload_n (x := l0) D_273_21 rfl ?_
      refine mjq_gR D_273_22 fr_12_36 h (fun v2 h => ?_)
      refine mjr_iload_n (x := l1) D_273_25 rfl ?_
      refine mjq_aI D_273_26 h (fun v3 h => ?_)
      refine mjr_iadd D_273_27 ?_
      refine mjq_istore_n (lo' := [some (.ref l0), some (.int l1), some (.int l2), some (.int (((8 : Int32) * l1) + v3))]) D_273_28 (Nat.le_of_ble_eq_true rfl) rfl ?_
      refine mjr_aload_n (x := l0) D_273_29 rfl ?_
      refine mjq_gI D_273_30 fr_12_316 h (fun v4 h => ?_)
      refine mjq_ic (v := (2 : Int32)) D_273_33 rfl ?_
      refine mjq_icmp_eq (tgt := 44) D_273_34 rfl h (fun h => ?_) (fun h => ?_)
      · refine mjr_aload_n (x := l0) D_273_44 rfl ?_
        refine mjq_gR D_273_45 fr_12_36 h (fun v5 h => ?_)
        refine mjr_iload_n (x := l1) D_273_48 rfl ?_
        refine mjq_aI D_273_49 h (fun v6 h => ?_)
        refine mjq_bi (v := (8 : Int32)) D_273_50 rfl ?_
        refine mjq_icmp_ne (tgt := 64) D_273_52 rfl h (fun h => ?_) (fun h => ?_)
        · exact mjG.fg (lo' := [some (.ref l0), some (.int l1), none, some (.int (((8 : Int32) * l1) + v3))]) (And.intro rfl (And.intro rfl (And.intro rfl True.intro))) ((t_273_64 hR h1 h2 hk6) _ _ _ _ _ h)
        · refine mjr_aload_n (x := l0) D_273_55 rfl ?_
          refine mjq_ic (v := (3 : Int32)) D_273_56 rfl ?_
          refine mjr_aload_n (x := l0) D_273_57 rfl ?_
          refine mjq_gI D_273_58 fr_12_310 h (fun v7 h => ?_)
          refine mjq_vN (As := [.int (3 : Int32), .int v7]) (rest := []) D_273_61 mr_12_339 V_268 rfl rfl rfl hR (Nat.le_refl _) h1 h2 h (fun  hp8 h => ?_)
          exact mjG.fg (lo' := [some (.ref l0), some (.int l1), none, some (.int (((8 : Int32) * l1) + v3))]) (And.intro rfl (And.intro rfl (And.intro rfl True.intro))) ((t_273_64 hR h1 h2 hk6) _ _ _ _ _ h)
      · refine mjr_aload_n (x := l0) D_273_37 rfl ?_
        refine mjq_vN (As := []) (rest := []) D_273_38 mr_12_347 V_269 rfl rfl rfl hR (Nat.le_refl _) h1 h2 h (fun  hp9 h => ?_)
        refine mjr_goto (tgt := 64) D_273_41 rfl ?_
        exact mjG.fg (lo' := [some (.ref l0), some (.int l1), none, some (.int (((8 : Int32) * l1) + v3))]) (And.intro rfl (And.intro rfl (And.intro rfl True.intro))) ((t_273_64 hR h1 h2 hk6) _ _ _ _ _ h)
noncomputable def L_273_6 (R : mjR) (n : Nat) : Nat → Int32 → Int32 → mjH → mjU := Nat.rec (motive := fun _ => Nat → Int32 → Int32 → mjH → mjU) (fun _ _ _ _ => none) (fun _ self => b_273_6 R self) n
theorem T_273_6 {X : mjX} {d C S kc ks : Nat} {R : mjR} (hR : mjC R d) (h1 : kc ≤ C) (h2 : ks ≤ S) (n : Nat) : P_273_6 X (d + 1) C S kc ks (L_273_6 R n) := by
  induction n with
  | zero => intro _ _ _ _ _ h; exact mj_no h
  | succ n ih => exact t_273_6 hR h1 h2 ih
noncomputable def b_273_0 (R : mjR) (l0 : Nat) (l1 : Int32) (hp : mjH) : mjU := rV hp l0 12 (bN (R 262 [.ref l0] hp) (fun  hp1 => L_273_6 R mjN l0 l1 (1 : Int32) hp1))
theorem t_273_0 {X : mjX} {d C S kc ks : Nat} {R : mjR} (hR : mjC R d) (h1 : kc ≤ C) (h2 : ks ≤ S) : P_273_0 X (d + 1) C S kc ks (b_273_0 R) := by
  intro l0 l1 hp q h
  unfold b_273_0 at h
  refine mjr_aload_n (x := l0) D_273_0 rfl ?_
  refine mjq_vN (As := []) (rest := []) D_273_1 mr_12_350 V_262 rfl rfl rfl hR (Nat.le_refl _) h1 h2 h (fun  hp1 h => ?_)
  refine mjq_ic (v := (1 : Int32)) D_273_4 rfl ?_
  refine mjq_istore_n (lo' := [some (.ref l0), some (.int l1), some (.int (1 : Int32)), none]) D_273_5 (Nat.le_of_ble_eq_true rfl) rfl ?_
  exact (T_273_6 hR h1 h2 mjN) _ _ _ _ _ h
noncomputable def f_273 (R : mjR) (a0 : Nat) (a1 : Int32) (hp : mjH) : mjU := b_273_0 R a0 a1 hp
theorem c_273 {R : mjR} {d : Nat} (hR : mjC R d) {a0 : Nat} {a1 : Int32} {hp : mjH} {q : Option Value × mjH} (h : f_273 R a0 a1 hp = some q) : mjM (d + 1) 0 0 273 [.ref a0, .int a1] hp (mjEq q) :=
  mjM_of Ja_273 (Nat.le_of_ble_eq_true rfl) (mjG.fg (lo' := [some (.ref a0), some (.int a1), none, none]) (And.intro rfl (And.intro rfl True.intro)) ((t_273_0 hR (Nat.le_refl 0) (Nat.le_refl 0)) a0 a1 hp q h))
def J_274 : mjI := (⟨"OwnerHeapModel", "opens", "(I)V"⟩, 12, prog_14_method_14_code, 2, none, 1, false)
theorem Ja_274 : mjMt 274 = some J_274 := by rfl
theorem D_274_0 : decode J_274.2.2.1 0 = .ok (.aload_n 0, 1) := dzq_42 (by decide +kernel)
theorem D_274_1 : decode J_274.2.2.1 1 = .ok (.iload_n 1, 1) := dzq_27 (by decide +kernel)
theorem D_274_2 : decode J_274.2.2.1 2 = .ok (.invokevirtual 343, 3) := dzq_182 (by decide +kernel)
theorem D_274_5 : decode J_274.2.2.1 5 = .ok (.ifCond .ne 8, 3) := dzq_154 (by decide +kernel)
theorem D_274_8 : decode J_274.2.2.1 8 = .ok (.aload_n 0, 1) := dzq_42 (by decide +kernel)
theorem D_274_9 : decode J_274.2.2.1 9 = .ok (.invokevirtual 347, 3) := dzq_182 (by decide +kernel)
theorem D_274_12 : decode J_274.2.2.1 12 = .ok (.return_, 1) := dzq_177 (by decide +kernel)
theorem D_274_13 : decode J_274.2.2.1 13 = .ok (.aload_n 0, 1) := dzq_42 (by decide +kernel)
theorem D_274_14 : decode J_274.2.2.1 14 = .ok (.dup, 1) := dzq_89 (by decide +kernel)
theorem D_274_15 : decode J_274.2.2.1 15 = .ok (.getfield 353, 3) := dzq_180 (by decide +kernel)
theorem D_274_18 : decode J_274.2.2.1 18 = .ok (.iconst 1, 1) := dzq_4 (by decide +kernel)
theorem D_274_19 : decode J_274.2.2.1 19 = .ok (.iadd, 1) := dzq_96 (by decide +kernel)
theorem D_274_20 : decode J_274.2.2.1 20 = .ok (.putfield 353, 3) := dzq_181 (by decide +kernel)
theorem D_274_23 : decode J_274.2.2.1 23 = .ok (.aload_n 0, 1) := dzq_42 (by decide +kernel)
theorem D_274_24 : decode J_274.2.2.1 24 = .ok (.getfield 353, 3) := dzq_180 (by decide +kernel)
theorem D_274_27 : decode J_274.2.2.1 27 = .ok (.bipush 12, 2) := dzq_16 (by decide +kernel)
theorem D_274_29 : decode J_274.2.2.1 29 = .ok (.if_icmp .le 12, 3) := dzq_164 (by decide +kernel)
theorem D_274_32 : decode J_274.2.2.1 32 = .ok (.aload_n 0, 1) := dzq_42 (by decide +kernel)
theorem D_274_33 : decode J_274.2.2.1 33 = .ok (.iconst 3, 1) := dzq_6 (by decide +kernel)
theorem D_274_34 : decode J_274.2.2.1 34 = .ok (.aload_n 0, 1) := dzq_42 (by decide +kernel)
theorem D_274_35 : decode J_274.2.2.1 35 = .ok (.getfield 310, 3) := dzq_180 (by decide +kernel)
theorem D_274_38 : decode J_274.2.2.1 38 = .ok (.invokevirtual 339, 3) := dzq_182 (by decide +kernel)
theorem D_274_41 : decode J_274.2.2.1 41 = .ok (.aload_n 0, 1) := dzq_42 (by decide +kernel)
theorem D_274_42 : decode J_274.2.2.1 42 = .ok (.invokevirtual 350, 3) := dzq_182 (by decide +kernel)
theorem D_274_45 : decode J_274.2.2.1 45 = .ok (.return_, 1) := dzq_177 (by decide +kernel)
def P_274_41 (X : mjX) (d C S kc ks : Nat) (k : Nat → mjH → mjU) : Prop := ∀ (l0 : Nat) (hp : mjH) (q : Option Value × mjH), k l0 hp = some q → mjG X d C S J_274 (mjEq q) 41 [some (.ref l0), none] [] hp kc ks
def P_274_0 (X : mjX) (d C S kc ks : Nat) (k : Nat → Int32 → mjH → mjU) : Prop := ∀ (l0 : Nat) (l1 : Int32) (hp : mjH) (q : Option Value × mjH), k l0 l1 hp = some q → mjG X d C S J_274 (mjEq q) 0 [some (.ref l0), some (.int l1)] [] hp kc ks
noncomputable def b_274_41 (R : mjR) (l0 : Nat) (hp : mjH) : mjU := rV hp l0 12 (bN (R 262 [.ref l0] hp) (fun  hp1 => some (none, hp1)))
theorem t_274_41 {X : mjX} {d C S kc ks : Nat} {R : mjR} (hR : mjC R d) (h1 : kc ≤ C) (h2 : ks ≤ S) : P_274_41 X (d + 1) C S kc ks (b_274_41 R) := by
  intro l0 hp q h
  unfold b_274_41 at h
  refine mjr_aload_n (x := l0) D_274_41 rfl ?_
  refine mjq_vN (As := []) (rest := []) D_274_42 mr_12_350 V_262 rfl rfl rfl hR (Nat.le_refl _) h1 h2 h (fun  hp1 h => ?_)
  exact mjq_nret D_274_45 rfl h1 h2 h
noncomputable def b_274_0 (R : mjR) (l0 : Nat) (l1 : Int32) (hp : mjH) : mjU := rV hp l0 12 (bI (R 271 [.ref l0, .int l1] hp) (fun v1 hp2 => (if v1 = 0 then rV hp2 l0 12 (bN (R 269 [.ref l0] hp2) (fun  hp8 => some (none, hp8))) else gI hp2 l0 12 64 (fun v3 => pI hp2 l0 12 64 (v3 + (1 : Int32)) (fun hp4 => gI hp4 l0 12 64 (fun v5 => (if v5 ≤ (12 : Int32) then b_274_41 R l0 hp4 else gI hp4 l0 12 4 (fun v6 => rV hp4 l0 12 (bN (R 268 [.ref l0, .int (3 : Int32), .int v6] hp4) (fun  hp7 => b_274_41 R l0 hp7))))))))))
theorem t_274_0 {X : mjX} {d C S kc ks : Nat} {R : mjR} (hR : mjC R d) (h1 : kc ≤ C) (h2 : ks ≤ S) : P_274_0 X (d + 1) C S kc ks (b_274_0 R) := by
  intro l0 l1 hp q h
  unfold b_274_0 at h
  refine mjr_aload_n (x := l0) D_274_0 rfl ?_
  refine mjr_iload_n (x := l1) D_274_1 rfl ?_
  refine mjq_vI (As := [.int l1]) (rest := []) D_274_2 mr_12_343 V_271 rfl rfl rfl hR (Nat.le_refl _) h1 h2 h (fun v1 hp2 h => ?_)
  refine mjq_if_ne (tgt := 13) D_274_5 rfl h (fun h => ?_) (fun h => ?_)
  · refine mjr_aload_n (x := l0) D_274_13 rfl ?_
    refine mjr_dup D_274_14 rfl ?_
    refine mjq_gI D_274_15 fr_12_353 h (fun v3 h => ?_)
    refine mjq_ic (v := (1 : Int32)) D_274_18 rfl ?_
    refine mjr_iadd D_274_19 ?_
    refine mjq_pI D_274_20 fr_12_353 rfl rfl h (fun hp4 h => ?_)
    refine mjr_aload_n (x := l0) D_274_23 rfl ?_
    refine mjq_gI D_274_24 fr_12_353 h (fun v5 h => ?_)
    refine mjq_bi (v := (12 : Int32)) D_274_27 rfl ?_
    refine mjq_icmp_le (tgt := 41) D_274_29 rfl h (fun h => ?_) (fun h => ?_)
    · exact mjG.fg (lo' := [some (.ref l0), none]) (And.intro rfl True.intro) ((t_274_41 hR h1 h2) _ _ _ h)
    · refine mjr_aload_n (x := l0) D_274_32 rfl ?_
      refine mjq_ic (v := (3 : Int32)) D_274_33 rfl ?_
      refine mjr_aload_n (x := l0) D_274_34 rfl ?_
      refine mjq_gI D_274_35 fr_12_310 h (fun v6 h => ?_)
      refine mjq_vN (As := [.int (3 : Int32), .int v6]) (rest := []) D_274_38 mr_12_339 V_268 rfl rfl rfl hR (Nat.le_refl _) h1 h2 h (fun  hp7 h => ?_)
      exact mjG.fg (lo' := [some (.ref l0), none]) (And.intro rfl True.intro) ((t_274_41 hR h1 h2) _ _ _ h)
  · refine mjr_aload_n (x := l0) D_274_8 rfl ?_
    refine mjq_vN (As := []) (rest := []) D_274_9 mr_12_347 V_269 rfl rfl rfl hR (Nat.le_refl _) h1 h2 h (fun  hp8 h => ?_)
    exact mjq_nret D_274_12 rfl h1 h2 h
noncomputable def f_274 (R : mjR) (a0 : Nat) (a1 : Int32) (hp : mjH) : mjU := b_274_0 R a0 a1 hp
theorem c_274 {R : mjR} {d : Nat} (hR : mjC R d) {a0 : Nat} {a1 : Int32} {hp : mjH} {q : Option Value × mjH} (h : f_274 R a0 a1 hp = some q) : mjM (d + 1) 0 0 274 [.ref a0, .int a1] hp (mjEq q) :=
  mjM_of Ja_274 (Nat.le_of_ble_eq_true rfl) (mjG.fg (lo' := [some (.ref a0), some (.int a1)]) (And.intro rfl (And.intro rfl True.intro)) ((t_274_0 hR (Nat.le_refl 0) (Nat.le_refl 0)) a0 a1 hp q h))
def J_275 : mjI := (⟨"OwnerHeapModel", "readMember", "(I)V"⟩, 12, prog_14_method_24_code, 5, none, 1, false)
theorem Ja_275 : mjMt 275 = some J_275 := by rfl
theorem D_275_0 : decode J_275.2.2.1 0 = .ok (.aload_n 0, 1) := dzq_42 (by decide +kernel)
theorem D_275_1 : decode J_275.2.2.1 1 = .ok (.invokevirtual 404, 3) := dzq_182 (by decide +kernel)
theorem D_275_4 : decode J_275.2.2.1 4 = .ok (.ifCond .ne 8, 3) := dzq_154 (by decide +kernel)
theorem D_275_7 : decode J_275.2.2.1 7 = .ok (.aload_n 0, 1) := dzq_42 (by decide +kernel)
theorem D_275_8 : decode J_275.2.2.1 8 = .ok (.invokevirtual 347, 3) := dzq_182 (by decide +kernel)
theorem D_275_11 : decode J_275.2.2.1 11 = .ok (.return_, 1) := dzq_177 (by decide +kernel)
theorem D_275_12 : decode J_275.2.2.1 12 = .ok (.aload_n 0, 1) := dzq_42 (by decide +kernel)
theorem D_275_13 : decode J_275.2.2.1 13 = .ok (.getfield 42, 3) := dzq_180 (by decide +kernel)
theorem D_275_16 : decode J_275.2.2.1 16 = .ok (.iload_n 1, 1) := dzq_27 (by decide +kernel)
theorem D_275_17 : decode J_275.2.2.1 17 = .ok (.iaload, 1) := dzq_46 (by decide +kernel)
theorem D_275_18 : decode J_275.2.2.1 18 = .ok (.bipush 24, 2) := dzq_16 (by decide +kernel)
theorem D_275_20 : decode J_275.2.2.1 20 = .ok (.if_icmp .ne 13, 3) := dzq_160 (by decide +kernel)
theorem D_275_23 : decode J_275.2.2.1 23 = .ok (.aload_n 0, 1) := dzq_42 (by decide +kernel)
theorem D_275_24 : decode J_275.2.2.1 24 = .ok (.iconst 3, 1) := dzq_6 (by decide +kernel)
theorem D_275_25 : decode J_275.2.2.1 25 = .ok (.aload_n 0, 1) := dzq_42 (by decide +kernel)
theorem D_275_26 : decode J_275.2.2.1 26 = .ok (.getfield 310, 3) := dzq_180 (by decide +kernel)
theorem D_275_29 : decode J_275.2.2.1 29 = .ok (.invokevirtual 339, 3) := dzq_182 (by decide +kernel)
theorem D_275_32 : decode J_275.2.2.1 32 = .ok (.return_, 1) := dzq_177 (by decide +kernel)
theorem D_275_33 : decode J_275.2.2.1 33 = .ok (.sipush 400, 3) := dzq_17 (by decide +kernel)
theorem D_275_36 : decode J_275.2.2.1 36 = .ok (.aload_n 0, 1) := dzq_42 (by decide +kernel)
theorem D_275_37 : decode J_275.2.2.1 37 = .ok (.getfield 356, 3) := dzq_180 (by decide +kernel)
theorem D_275_40 : decode J_275.2.2.1 40 = .ok (.imul, 1) := dzq_104 (by decide +kernel)
theorem D_275_41 : decode J_275.2.2.1 41 = .ok (.aload_n 0, 1) := dzq_42 (by decide +kernel)
theorem D_275_42 : decode J_275.2.2.1 42 = .ok (.getfield 79, 3) := dzq_180 (by decide +kernel)
theorem D_275_45 : decode J_275.2.2.1 45 = .ok (.aload_n 0, 1) := dzq_42 (by decide +kernel)
theorem D_275_46 : decode J_275.2.2.1 46 = .ok (.getfield 356, 3) := dzq_180 (by decide +kernel)
theorem D_275_49 : decode J_275.2.2.1 49 = .ok (.iaload, 1) := dzq_46 (by decide +kernel)
theorem D_275_50 : decode J_275.2.2.1 50 = .ok (.iadd, 1) := dzq_96 (by decide +kernel)
theorem D_275_51 : decode J_275.2.2.1 51 = .ok (.istore_n 2, 1) := dzq_61 (by decide +kernel)
theorem D_275_52 : decode J_275.2.2.1 52 = .ok (.aload_n 0, 1) := dzq_42 (by decide +kernel)
theorem D_275_53 : decode J_275.2.2.1 53 = .ok (.getfield 91, 3) := dzq_180 (by decide +kernel)
theorem D_275_56 : decode J_275.2.2.1 56 = .ok (.iload_n 2, 1) := dzq_28 (by decide +kernel)
theorem D_275_57 : decode J_275.2.2.1 57 = .ok (.iload_n 1, 1) := dzq_27 (by decide +kernel)
theorem D_275_58 : decode J_275.2.2.1 58 = .ok (.iastore, 1) := dzq_79 (by decide +kernel)
theorem D_275_59 : decode J_275.2.2.1 59 = .ok (.aload_n 0, 1) := dzq_42 (by decide +kernel)
theorem D_275_60 : decode J_275.2.2.1 60 = .ok (.getfield 97, 3) := dzq_180 (by decide +kernel)
theorem D_275_63 : decode J_275.2.2.1 63 = .ok (.iload_n 2, 1) := dzq_28 (by decide +kernel)
theorem D_275_64 : decode J_275.2.2.1 64 = .ok (.aload_n 0, 1) := dzq_42 (by decide +kernel)
theorem D_275_65 : decode J_275.2.2.1 65 = .ok (.invokevirtual 408, 3) := dzq_182 (by decide +kernel)
theorem D_275_68 : decode J_275.2.2.1 68 = .ok (.iastore, 1) := dzq_79 (by decide +kernel)
theorem D_275_69 : decode J_275.2.2.1 69 = .ok (.aload_n 0, 1) := dzq_42 (by decide +kernel)
theorem D_275_70 : decode J_275.2.2.1 70 = .ok (.getfield 333, 3) := dzq_180 (by decide +kernel)
theorem D_275_73 : decode J_275.2.2.1 73 = .ok (.ifCond .le 4, 3) := dzq_158 (by decide +kernel)
theorem D_275_76 : decode J_275.2.2.1 76 = .ok (.return_, 1) := dzq_177 (by decide +kernel)
theorem D_275_77 : decode J_275.2.2.1 77 = .ok (.aload_n 0, 1) := dzq_42 (by decide +kernel)
theorem D_275_78 : decode J_275.2.2.1 78 = .ok (.getfield 316, 3) := dzq_180 (by decide +kernel)
theorem D_275_81 : decode J_275.2.2.1 81 = .ok (.iconst 2, 1) := dzq_5 (by decide +kernel)
theorem D_275_82 : decode J_275.2.2.1 82 = .ok (.if_icmp .eq 8, 3) := dzq_159 (by decide +kernel)
theorem D_275_85 : decode J_275.2.2.1 85 = .ok (.aload_n 0, 1) := dzq_42 (by decide +kernel)
theorem D_275_86 : decode J_275.2.2.1 86 = .ok (.invokevirtual 347, 3) := dzq_182 (by decide +kernel)
theorem D_275_89 : decode J_275.2.2.1 89 = .ok (.return_, 1) := dzq_177 (by decide +kernel)
theorem D_275_90 : decode J_275.2.2.1 90 = .ok (.aload_n 0, 1) := dzq_42 (by decide +kernel)
theorem D_275_91 : decode J_275.2.2.1 91 = .ok (.getfield 79, 3) := dzq_180 (by decide +kernel)
theorem D_275_94 : decode J_275.2.2.1 94 = .ok (.aload_n 0, 1) := dzq_42 (by decide +kernel)
theorem D_275_95 : decode J_275.2.2.1 95 = .ok (.getfield 356, 3) := dzq_180 (by decide +kernel)
theorem D_275_98 : decode J_275.2.2.1 98 = .ok (.dup2, 1) := by decide +kernel
theorem D_275_99 : decode J_275.2.2.1 99 = .ok (.iaload, 1) := dzq_46 (by decide +kernel)
theorem D_275_100 : decode J_275.2.2.1 100 = .ok (.iconst 1, 1) := dzq_4 (by decide +kernel)
theorem D_275_101 : decode J_275.2.2.1 101 = .ok (.iadd, 1) := dzq_96 (by decide +kernel)
theorem D_275_102 : decode J_275.2.2.1 102 = .ok (.iastore, 1) := dzq_79 (by decide +kernel)
theorem D_275_103 : decode J_275.2.2.1 103 = .ok (.aload_n 0, 1) := dzq_42 (by decide +kernel)
theorem D_275_104 : decode J_275.2.2.1 104 = .ok (.getfield 42, 3) := dzq_180 (by decide +kernel)
theorem D_275_107 : decode J_275.2.2.1 107 = .ok (.iload_n 1, 1) := dzq_27 (by decide +kernel)
theorem D_275_108 : decode J_275.2.2.1 108 = .ok (.dup2, 1) := by decide +kernel
theorem D_275_109 : decode J_275.2.2.1 109 = .ok (.iaload, 1) := dzq_46 (by decide +kernel)
theorem D_275_110 : decode J_275.2.2.1 110 = .ok (.iconst 1, 1) := dzq_4 (by decide +kernel)
theorem D_275_111 : decode J_275.2.2.1 111 = .ok (.iadd, 1) := dzq_96 (by decide +kernel)
theorem D_275_112 : decode J_275.2.2.1 112 = .ok (.iastore, 1) := dzq_79 (by decide +kernel)
theorem D_275_113 : decode J_275.2.2.1 113 = .ok (.aload_n 0, 1) := dzq_42 (by decide +kernel)
theorem D_275_114 : decode J_275.2.2.1 114 = .ok (.getfield 115, 3) := dzq_180 (by decide +kernel)
theorem D_275_117 : decode J_275.2.2.1 117 = .ok (.iload_n 2, 1) := dzq_28 (by decide +kernel)
theorem D_275_118 : decode J_275.2.2.1 118 = .ok (.aload_n 0, 1) := dzq_42 (by decide +kernel)
theorem D_275_119 : decode J_275.2.2.1 119 = .ok (.getfield 322, 3) := dzq_180 (by decide +kernel)
theorem D_275_122 : decode J_275.2.2.1 122 = .ok (.lastore, 1) := by decide +kernel
theorem D_275_123 : decode J_275.2.2.1 123 = .ok (.aload_n 0, 1) := dzq_42 (by decide +kernel)
theorem D_275_124 : decode J_275.2.2.1 124 = .ok (.getfield 100, 3) := dzq_180 (by decide +kernel)
theorem D_275_127 : decode J_275.2.2.1 127 = .ok (.iload_n 2, 1) := dzq_28 (by decide +kernel)
theorem D_275_128 : decode J_275.2.2.1 128 = .ok (.aload_n 0, 1) := dzq_42 (by decide +kernel)
theorem D_275_129 : decode J_275.2.2.1 129 = .ok (.getfield 310, 3) := dzq_180 (by decide +kernel)
theorem D_275_132 : decode J_275.2.2.1 132 = .ok (.iastore, 1) := dzq_79 (by decide +kernel)
theorem D_275_133 : decode J_275.2.2.1 133 = .ok (.aload_n 0, 1) := dzq_42 (by decide +kernel)
theorem D_275_134 : decode J_275.2.2.1 134 = .ok (.getfield 103, 3) := dzq_180 (by decide +kernel)
theorem D_275_137 : decode J_275.2.2.1 137 = .ok (.iload_n 2, 1) := dzq_28 (by decide +kernel)
theorem D_275_138 : decode J_275.2.2.1 138 = .ok (.iconst 0, 1) := dzq_3 (by decide +kernel)
theorem D_275_139 : decode J_275.2.2.1 139 = .ok (.iastore, 1) := dzq_79 (by decide +kernel)
theorem D_275_140 : decode J_275.2.2.1 140 = .ok (.aload_n 0, 1) := dzq_42 (by decide +kernel)
theorem D_275_141 : decode J_275.2.2.1 141 = .ok (.getfield 106, 3) := dzq_180 (by decide +kernel)
theorem D_275_144 : decode J_275.2.2.1 144 = .ok (.iload_n 2, 1) := dzq_28 (by decide +kernel)
theorem D_275_145 : decode J_275.2.2.1 145 = .ok (.iconst (-1), 1) := dzq_2 (by decide +kernel)
theorem D_275_146 : decode J_275.2.2.1 146 = .ok (.iastore, 1) := dzq_79 (by decide +kernel)
theorem D_275_147 : decode J_275.2.2.1 147 = .ok (.aload_n 0, 1) := dzq_42 (by decide +kernel)
theorem D_275_148 : decode J_275.2.2.1 148 = .ok (.getfield 112, 3) := dzq_180 (by decide +kernel)
theorem D_275_151 : decode J_275.2.2.1 151 = .ok (.iload_n 2, 1) := dzq_28 (by decide +kernel)
theorem D_275_152 : decode J_275.2.2.1 152 = .ok (.iconst 0, 1) := dzq_3 (by decide +kernel)
theorem D_275_153 : decode J_275.2.2.1 153 = .ok (.iastore, 1) := dzq_79 (by decide +kernel)
theorem D_275_154 : decode J_275.2.2.1 154 = .ok (.aload_n 0, 1) := dzq_42 (by decide +kernel)
theorem D_275_155 : decode J_275.2.2.1 155 = .ok (.invokevirtual 350, 3) := dzq_182 (by decide +kernel)
theorem D_275_158 : decode J_275.2.2.1 158 = .ok (.aload_n 0, 1) := dzq_42 (by decide +kernel)
theorem D_275_159 : decode J_275.2.2.1 159 = .ok (.getfield 94, 3) := dzq_180 (by decide +kernel)
theorem D_275_162 : decode J_275.2.2.1 162 = .ok (.iload_n 2, 1) := dzq_28 (by decide +kernel)
theorem D_275_163 : decode J_275.2.2.1 163 = .ok (.aload_n 0, 1) := dzq_42 (by decide +kernel)
theorem D_275_164 : decode J_275.2.2.1 164 = .ok (.bipush 40, 2) := dzq_16 (by decide +kernel)
theorem D_275_166 : decode J_275.2.2.1 166 = .ok (.invokevirtual 343, 3) := dzq_182 (by decide +kernel)
theorem D_275_169 : decode J_275.2.2.1 169 = .ok (.ifCond .eq 7, 3) := dzq_153 (by decide +kernel)
theorem D_275_172 : decode J_275.2.2.1 172 = .ok (.iconst 1, 1) := dzq_4 (by decide +kernel)
theorem D_275_173 : decode J_275.2.2.1 173 = .ok (.goto 4, 3) := dzq_167 (by decide +kernel)
theorem D_275_176 : decode J_275.2.2.1 176 = .ok (.iconst 0, 1) := dzq_3 (by decide +kernel)
theorem D_275_177 : decode J_275.2.2.1 177 = .ok (.iastore, 1) := dzq_79 (by decide +kernel)
theorem D_275_178 : decode J_275.2.2.1 178 = .ok (.aload_n 0, 1) := dzq_42 (by decide +kernel)
theorem D_275_179 : decode J_275.2.2.1 179 = .ok (.getfield 94, 3) := dzq_180 (by decide +kernel)
theorem D_275_182 : decode J_275.2.2.1 182 = .ok (.iload_n 2, 1) := dzq_28 (by decide +kernel)
theorem D_275_183 : decode J_275.2.2.1 183 = .ok (.iaload, 1) := dzq_46 (by decide +kernel)
theorem D_275_184 : decode J_275.2.2.1 184 = .ok (.ifCond .ne 10, 3) := dzq_154 (by decide +kernel)
theorem D_275_187 : decode J_275.2.2.1 187 = .ok (.aload_n 0, 1) := dzq_42 (by decide +kernel)
theorem D_275_188 : decode J_275.2.2.1 188 = .ok (.bipush 59, 2) := dzq_16 (by decide +kernel)
theorem D_275_190 : decode J_275.2.2.1 190 = .ok (.invokevirtual 381, 3) := dzq_182 (by decide +kernel)
theorem D_275_193 : decode J_275.2.2.1 193 = .ok (.return_, 1) := dzq_177 (by decide +kernel)
theorem D_275_194 : decode J_275.2.2.1 194 = .ok (.aload_n 0, 1) := dzq_42 (by decide +kernel)
theorem D_275_195 : decode J_275.2.2.1 195 = .ok (.bipush 40, 2) := dzq_16 (by decide +kernel)
theorem D_275_197 : decode J_275.2.2.1 197 = .ok (.invokevirtual 391, 3) := dzq_182 (by decide +kernel)
theorem D_275_200 : decode J_275.2.2.1 200 = .ok (.aload_n 0, 1) := dzq_42 (by decide +kernel)
theorem D_275_201 : decode J_275.2.2.1 201 = .ok (.getfield 333, 3) := dzq_180 (by decide +kernel)
theorem D_275_204 : decode J_275.2.2.1 204 = .ok (.ifCond .ne 16, 3) := dzq_154 (by decide +kernel)
theorem D_275_207 : decode J_275.2.2.1 207 = .ok (.aload_n 0, 1) := dzq_42 (by decide +kernel)
theorem D_275_208 : decode J_275.2.2.1 208 = .ok (.bipush 41, 2) := dzq_16 (by decide +kernel)
theorem D_275_210 : decode J_275.2.2.1 210 = .ok (.invokevirtual 343, 3) := dzq_182 (by decide +kernel)
theorem D_275_213 : decode J_275.2.2.1 213 = .ok (.ifCond .ne 7, 3) := dzq_154 (by decide +kernel)
theorem D_275_216 : decode J_275.2.2.1 216 = .ok (.iconst 1, 1) := dzq_4 (by decide +kernel)
theorem D_275_217 : decode J_275.2.2.1 217 = .ok (.goto 4, 3) := dzq_167 (by decide +kernel)
theorem D_275_220 : decode J_275.2.2.1 220 = .ok (.iconst 0, 1) := dzq_3 (by decide +kernel)
theorem D_275_221 : decode J_275.2.2.1 221 = .ok (.istore_n 3, 1) := dzq_62 (by decide +kernel)
theorem D_275_222 : decode J_275.2.2.1 222 = .ok (.iload_n 3, 1) := dzq_29 (by decide +kernel)
theorem D_275_223 : decode J_275.2.2.1 223 = .ok (.ifCond .eq 144, 3) := dzq_153 (by decide +kernel)
theorem D_275_226 : decode J_275.2.2.1 226 = .ok (.aload_n 0, 1) := dzq_42 (by decide +kernel)
theorem D_275_227 : decode J_275.2.2.1 227 = .ok (.invokevirtual 404, 3) := dzq_182 (by decide +kernel)
theorem D_275_230 : decode J_275.2.2.1 230 = .ok (.ifCond .ne 10, 3) := dzq_154 (by decide +kernel)
theorem D_275_233 : decode J_275.2.2.1 233 = .ok (.aload_n 0, 1) := dzq_42 (by decide +kernel)
theorem D_275_234 : decode J_275.2.2.1 234 = .ok (.invokevirtual 347, 3) := dzq_182 (by decide +kernel)
theorem D_275_237 : decode J_275.2.2.1 237 = .ok (.goto 23, 3) := dzq_167 (by decide +kernel)
theorem D_275_240 : decode J_275.2.2.1 240 = .ok (.aload_n 0, 1) := dzq_42 (by decide +kernel)
theorem D_275_241 : decode J_275.2.2.1 241 = .ok (.getfield 103, 3) := dzq_180 (by decide +kernel)
theorem D_275_244 : decode J_275.2.2.1 244 = .ok (.iload_n 2, 1) := dzq_28 (by decide +kernel)
theorem D_275_245 : decode J_275.2.2.1 245 = .ok (.iaload, 1) := dzq_46 (by decide +kernel)
theorem D_275_246 : decode J_275.2.2.1 246 = .ok (.bipush 6, 2) := dzq_16 (by decide +kernel)
theorem D_275_248 : decode J_275.2.2.1 248 = .ok (.if_icmp .ne 12, 3) := dzq_160 (by decide +kernel)
theorem D_275_251 : decode J_275.2.2.1 251 = .ok (.aload_n 0, 1) := dzq_42 (by decide +kernel)
theorem D_275_252 : decode J_275.2.2.1 252 = .ok (.iconst 3, 1) := dzq_6 (by decide +kernel)
theorem D_275_253 : decode J_275.2.2.1 253 = .ok (.aload_n 0, 1) := dzq_42 (by decide +kernel)
theorem D_275_254 : decode J_275.2.2.1 254 = .ok (.getfield 310, 3) := dzq_180 (by decide +kernel)
theorem D_275_257 : decode J_275.2.2.1 257 = .ok (.invokevirtual 339, 3) := dzq_182 (by decide +kernel)
theorem D_275_260 : decode J_275.2.2.1 260 = .ok (.aload_n 0, 1) := dzq_42 (by decide +kernel)
theorem D_275_261 : decode J_275.2.2.1 261 = .ok (.getfield 333, 3) := dzq_180 (by decide +kernel)
theorem D_275_264 : decode J_275.2.2.1 264 = .ok (.ifCond .le 4, 3) := dzq_158 (by decide +kernel)
theorem D_275_267 : decode J_275.2.2.1 267 = .ok (.return_, 1) := dzq_177 (by decide +kernel)
theorem D_275_268 : decode J_275.2.2.1 268 = .ok (.bipush 6, 2) := dzq_16 (by decide +kernel)
theorem D_275_270 : decode J_275.2.2.1 270 = .ok (.iload_n 2, 1) := dzq_28 (by decide +kernel)
theorem D_275_271 : decode J_275.2.2.1 271 = .ok (.imul, 1) := dzq_104 (by decide +kernel)
theorem D_275_272 : decode J_275.2.2.1 272 = .ok (.aload_n 0, 1) := dzq_42 (by decide +kernel)
theorem D_275_273 : decode J_275.2.2.1 273 = .ok (.getfield 103, 3) := dzq_180 (by decide +kernel)
theorem D_275_276 : decode J_275.2.2.1 276 = .ok (.iload_n 2, 1) := dzq_28 (by decide +kernel)
theorem D_275_277 : decode J_275.2.2.1 277 = .ok (.iaload, 1) := dzq_46 (by decide +kernel)
theorem D_275_278 : decode J_275.2.2.1 278 = .ok (.iadd, 1) := dzq_96 (by decide +kernel)
theorem D_275_279 : decode J_275.2.2.1 279 = .ok (.istore 4, 2) := dzq_54 (by decide +kernel)
theorem D_275_281 : decode J_275.2.2.1 281 = .ok (.aload_n 0, 1) := dzq_42 (by decide +kernel)
theorem D_275_282 : decode J_275.2.2.1 282 = .ok (.getfield 118, 3) := dzq_180 (by decide +kernel)
theorem D_275_285 : decode J_275.2.2.1 285 = .ok (.iload 4, 2) := dzq_21 (by decide +kernel)
theorem D_275_287 : decode J_275.2.2.1 287 = .ok (.aload_n 0, 1) := dzq_42 (by decide +kernel)
theorem D_275_288 : decode J_275.2.2.1 288 = .ok (.invokevirtual 408, 3) := dzq_182 (by decide +kernel)
theorem D_275_291 : decode J_275.2.2.1 291 = .ok (.iastore, 1) := dzq_79 (by decide +kernel)
theorem D_275_292 : decode J_275.2.2.1 292 = .ok (.aload_n 0, 1) := dzq_42 (by decide +kernel)
theorem D_275_293 : decode J_275.2.2.1 293 = .ok (.getfield 333, 3) := dzq_180 (by decide +kernel)
theorem D_275_296 : decode J_275.2.2.1 296 = .ok (.ifCond .le 4, 3) := dzq_158 (by decide +kernel)
theorem D_275_299 : decode J_275.2.2.1 299 = .ok (.return_, 1) := dzq_177 (by decide +kernel)
theorem D_275_300 : decode J_275.2.2.1 300 = .ok (.aload_n 0, 1) := dzq_42 (by decide +kernel)
theorem D_275_301 : decode J_275.2.2.1 301 = .ok (.getfield 316, 3) := dzq_180 (by decide +kernel)
theorem D_275_304 : decode J_275.2.2.1 304 = .ok (.iconst 2, 1) := dzq_5 (by decide +kernel)
theorem D_275_305 : decode J_275.2.2.1 305 = .ok (.if_icmp .eq 8, 3) := dzq_159 (by decide +kernel)
theorem D_275_308 : decode J_275.2.2.1 308 = .ok (.aload_n 0, 1) := dzq_42 (by decide +kernel)
theorem D_275_309 : decode J_275.2.2.1 309 = .ok (.invokevirtual 347, 3) := dzq_182 (by decide +kernel)
theorem D_275_312 : decode J_275.2.2.1 312 = .ok (.return_, 1) := dzq_177 (by decide +kernel)
theorem D_275_313 : decode J_275.2.2.1 313 = .ok (.aload_n 0, 1) := dzq_42 (by decide +kernel)
theorem D_275_314 : decode J_275.2.2.1 314 = .ok (.getfield 124, 3) := dzq_180 (by decide +kernel)
theorem D_275_317 : decode J_275.2.2.1 317 = .ok (.iload 4, 2) := dzq_21 (by decide +kernel)
theorem D_275_319 : decode J_275.2.2.1 319 = .ok (.aload_n 0, 1) := dzq_42 (by decide +kernel)
theorem D_275_320 : decode J_275.2.2.1 320 = .ok (.getfield 322, 3) := dzq_180 (by decide +kernel)
theorem D_275_323 : decode J_275.2.2.1 323 = .ok (.lastore, 1) := by decide +kernel
theorem D_275_324 : decode J_275.2.2.1 324 = .ok (.aload_n 0, 1) := dzq_42 (by decide +kernel)
theorem D_275_325 : decode J_275.2.2.1 325 = .ok (.getfield 121, 3) := dzq_180 (by decide +kernel)
theorem D_275_328 : decode J_275.2.2.1 328 = .ok (.iload 4, 2) := dzq_21 (by decide +kernel)
theorem D_275_330 : decode J_275.2.2.1 330 = .ok (.aload_n 0, 1) := dzq_42 (by decide +kernel)
theorem D_275_331 : decode J_275.2.2.1 331 = .ok (.getfield 310, 3) := dzq_180 (by decide +kernel)
theorem D_275_334 : decode J_275.2.2.1 334 = .ok (.iastore, 1) := dzq_79 (by decide +kernel)
theorem D_275_335 : decode J_275.2.2.1 335 = .ok (.aload_n 0, 1) := dzq_42 (by decide +kernel)
theorem D_275_336 : decode J_275.2.2.1 336 = .ok (.getfield 103, 3) := dzq_180 (by decide +kernel)
theorem D_275_339 : decode J_275.2.2.1 339 = .ok (.iload_n 2, 1) := dzq_28 (by decide +kernel)
theorem D_275_340 : decode J_275.2.2.1 340 = .ok (.dup2, 1) := by decide +kernel
theorem D_275_341 : decode J_275.2.2.1 341 = .ok (.iaload, 1) := dzq_46 (by decide +kernel)
theorem D_275_342 : decode J_275.2.2.1 342 = .ok (.iconst 1, 1) := dzq_4 (by decide +kernel)
theorem D_275_343 : decode J_275.2.2.1 343 = .ok (.iadd, 1) := dzq_96 (by decide +kernel)
theorem D_275_344 : decode J_275.2.2.1 344 = .ok (.iastore, 1) := dzq_79 (by decide +kernel)
theorem D_275_345 : decode J_275.2.2.1 345 = .ok (.aload_n 0, 1) := dzq_42 (by decide +kernel)
theorem D_275_346 : decode J_275.2.2.1 346 = .ok (.invokevirtual 350, 3) := dzq_182 (by decide +kernel)
theorem D_275_349 : decode J_275.2.2.1 349 = .ok (.aload_n 0, 1) := dzq_42 (by decide +kernel)
theorem D_275_350 : decode J_275.2.2.1 350 = .ok (.bipush 44, 2) := dzq_16 (by decide +kernel)
theorem D_275_352 : decode J_275.2.2.1 352 = .ok (.invokevirtual 343, 3) := dzq_182 (by decide +kernel)
theorem D_275_355 : decode J_275.2.2.1 355 = .ok (.istore_n 3, 1) := dzq_62 (by decide +kernel)
theorem D_275_356 : decode J_275.2.2.1 356 = .ok (.iload_n 3, 1) := dzq_29 (by decide +kernel)
theorem D_275_357 : decode J_275.2.2.1 357 = .ok (.ifCond .eq 7, 3) := dzq_153 (by decide +kernel)
theorem D_275_360 : decode J_275.2.2.1 360 = .ok (.aload_n 0, 1) := dzq_42 (by decide +kernel)
theorem D_275_361 : decode J_275.2.2.1 361 = .ok (.invokevirtual 350, 3) := dzq_182 (by decide +kernel)
theorem D_275_364 : decode J_275.2.2.1 364 = .ok (.goto (-142), 3) := dzq_167 (by decide +kernel)
theorem D_275_367 : decode J_275.2.2.1 367 = .ok (.aload_n 0, 1) := dzq_42 (by decide +kernel)
theorem D_275_368 : decode J_275.2.2.1 368 = .ok (.getfield 333, 3) := dzq_180 (by decide +kernel)
theorem D_275_371 : decode J_275.2.2.1 371 = .ok (.ifCond .ne 9, 3) := dzq_154 (by decide +kernel)
theorem D_275_374 : decode J_275.2.2.1 374 = .ok (.aload_n 0, 1) := dzq_42 (by decide +kernel)
theorem D_275_375 : decode J_275.2.2.1 375 = .ok (.bipush 41, 2) := dzq_16 (by decide +kernel)
theorem D_275_377 : decode J_275.2.2.1 377 = .ok (.invokevirtual 397, 3) := dzq_182 (by decide +kernel)
theorem D_275_380 : decode J_275.2.2.1 380 = .ok (.aload_n 0, 1) := dzq_42 (by decide +kernel)
theorem D_275_381 : decode J_275.2.2.1 381 = .ok (.getfield 333, 3) := dzq_180 (by decide +kernel)
theorem D_275_384 : decode J_275.2.2.1 384 = .ok (.ifCond .le 4, 3) := dzq_158 (by decide +kernel)
theorem D_275_387 : decode J_275.2.2.1 387 = .ok (.return_, 1) := dzq_177 (by decide +kernel)
theorem D_275_388 : decode J_275.2.2.1 388 = .ok (.aload_n 0, 1) := dzq_42 (by decide +kernel)
theorem D_275_389 : decode J_275.2.2.1 389 = .ok (.iload_n 2, 1) := dzq_28 (by decide +kernel)
theorem D_275_390 : decode J_275.2.2.1 390 = .ok (.putfield 369, 3) := dzq_181 (by decide +kernel)
theorem D_275_393 : decode J_275.2.2.1 393 = .ok (.aload_n 0, 1) := dzq_42 (by decide +kernel)
theorem D_275_394 : decode J_275.2.2.1 394 = .ok (.aload_n 0, 1) := dzq_42 (by decide +kernel)
theorem D_275_395 : decode J_275.2.2.1 395 = .ok (.getfield 103, 3) := dzq_180 (by decide +kernel)
theorem D_275_398 : decode J_275.2.2.1 398 = .ok (.iload_n 2, 1) := dzq_28 (by decide +kernel)
theorem D_275_399 : decode J_275.2.2.1 399 = .ok (.iaload, 1) := dzq_46 (by decide +kernel)
theorem D_275_400 : decode J_275.2.2.1 400 = .ok (.putfield 372, 3) := dzq_181 (by decide +kernel)
theorem D_275_403 : decode J_275.2.2.1 403 = .ok (.aload_n 0, 1) := dzq_42 (by decide +kernel)
theorem D_275_404 : decode J_275.2.2.1 404 = .ok (.getfield 106, 3) := dzq_180 (by decide +kernel)
theorem D_275_407 : decode J_275.2.2.1 407 = .ok (.iload_n 2, 1) := dzq_28 (by decide +kernel)
theorem D_275_408 : decode J_275.2.2.1 408 = .ok (.aload_n 0, 1) := dzq_42 (by decide +kernel)
theorem D_275_409 : decode J_275.2.2.1 409 = .ok (.getfield 85, 3) := dzq_180 (by decide +kernel)
theorem D_275_412 : decode J_275.2.2.1 412 = .ok (.aload_n 0, 1) := dzq_42 (by decide +kernel)
theorem D_275_413 : decode J_275.2.2.1 413 = .ok (.getfield 356, 3) := dzq_180 (by decide +kernel)
theorem D_275_416 : decode J_275.2.2.1 416 = .ok (.iaload, 1) := dzq_46 (by decide +kernel)
theorem D_275_417 : decode J_275.2.2.1 417 = .ok (.iastore, 1) := dzq_79 (by decide +kernel)
theorem D_275_418 : decode J_275.2.2.1 418 = .ok (.aload_n 0, 1) := dzq_42 (by decide +kernel)
theorem D_275_419 : decode J_275.2.2.1 419 = .ok (.invokevirtual 375, 3) := dzq_182 (by decide +kernel)
theorem D_275_422 : decode J_275.2.2.1 422 = .ok (.aload_n 0, 1) := dzq_42 (by decide +kernel)
theorem D_275_423 : decode J_275.2.2.1 423 = .ok (.getfield 112, 3) := dzq_180 (by decide +kernel)
theorem D_275_426 : decode J_275.2.2.1 426 = .ok (.iload_n 2, 1) := dzq_28 (by decide +kernel)
theorem D_275_427 : decode J_275.2.2.1 427 = .ok (.aload_n 0, 1) := dzq_42 (by decide +kernel)
theorem D_275_428 : decode J_275.2.2.1 428 = .ok (.getfield 372, 3) := dzq_180 (by decide +kernel)
theorem D_275_431 : decode J_275.2.2.1 431 = .ok (.iastore, 1) := dzq_79 (by decide +kernel)
theorem D_275_432 : decode J_275.2.2.1 432 = .ok (.return_, 1) := dzq_177 (by decide +kernel)
def P_275_380 (X : mjX) (d C S kc ks : Nat) (k : Nat → Int32 → mjH → mjU) : Prop := ∀ (l0 : Nat) (l2 : Int32) (hp : mjH) (q : Option Value × mjH), k l0 l2 hp = some q → mjG X d C S J_275 (mjEq q) 380 [some (.ref l0), none, some (.int l2), none, none] [] hp kc ks
def P_275_364 (X : mjX) (d C S kc ks : Nat) (k : Nat → Int32 → Int32 → mjH → mjU) : Prop := ∀ (l0 : Nat) (l2 : Int32) (l3 : Int32) (hp : mjH) (q : Option Value × mjH), k l0 l2 l3 hp = some q → mjG X d C S J_275 (mjEq q) 364 [some (.ref l0), none, some (.int l2), some (.int l3), none] [] hp kc ks
def P_275_260 (X : mjX) (d C S kc ks : Nat) (k : Nat → Int32 → mjH → mjU) : Prop := ∀ (l0 : Nat) (l2 : Int32) (hp : mjH) (q : Option Value × mjH), k l0 l2 hp = some q → mjG X d C S J_275 (mjEq q) 260 [some (.ref l0), none, some (.int l2), none, none] [] hp kc ks
def P_275_222 (X : mjX) (d C S kc ks : Nat) (k : Nat → Int32 → Int32 → mjH → mjU) : Prop := ∀ (l0 : Nat) (l2 : Int32) (l3 : Int32) (hp : mjH) (q : Option Value × mjH), k l0 l2 l3 hp = some q → mjG X d C S J_275 (mjEq q) 222 [some (.ref l0), none, some (.int l2), some (.int l3), none] [] hp kc ks
def P_275_221 (X : mjX) (d C S kc ks : Nat) (k : Nat → Int32 → Int32 → mjH → mjU) : Prop := ∀ (l0 : Nat) (l2 : Int32) (s0 : Int32) (hp : mjH) (q : Option Value × mjH), k l0 l2 s0 hp = some q → mjG X d C S J_275 (mjEq q) 221 [some (.ref l0), none, some (.int l2), none, none] [.int s0] hp kc ks
def P_275_220 (X : mjX) (d C S kc ks : Nat) (k : Nat → Int32 → mjH → mjU) : Prop := ∀ (l0 : Nat) (l2 : Int32) (hp : mjH) (q : Option Value × mjH), k l0 l2 hp = some q → mjG X d C S J_275 (mjEq q) 220 [some (.ref l0), none, some (.int l2), none, none] [] hp kc ks
def P_275_177 (X : mjX) (d C S kc ks : Nat) (k : Nat → Int32 → Nat → Int32 → Int32 → mjH → mjU) : Prop := ∀ (l0 : Nat) (l2 : Int32) (s0 : Nat) (s1 : Int32) (s2 : Int32) (hp : mjH) (q : Option Value × mjH), k l0 l2 s0 s1 s2 hp = some q → mjG X d C S J_275 (mjEq q) 177 [some (.ref l0), none, some (.int l2), none, none] [.int s2, .int s1, .ref s0] hp kc ks
def P_275_0 (X : mjX) (d C S kc ks : Nat) (k : Nat → Int32 → mjH → mjU) : Prop := ∀ (l0 : Nat) (l1 : Int32) (hp : mjH) (q : Option Value × mjH), k l0 l1 hp = some q → mjG X d C S J_275 (mjEq q) 0 [some (.ref l0), some (.int l1), none, none, none] [] hp kc ks
noncomputable def b_275_380 (R : mjR) (l0 : Nat) (l2 : Int32) (hp : mjH) : mjU := gI hp l0 12 61 (fun v1 => (if v1 ≤ 0 then pI hp l0 12 66 l2 (fun hp2 => gR hp2 l0 12 39 (fun v3 => aI hp2 v3 l2 (fun v4 => pI hp2 l0 12 67 v4 (fun hp5 => gR hp5 l0 12 40 (fun v6 => gR hp5 l0 12 33 (fun v7 => gI hp5 l0 12 63 (fun v8 => aI hp5 v7 v8 (fun v9 => sI hp5 v6 l2 v9 (fun hp10 => rV hp10 l0 12 (bN (R 279 [.ref l0] hp10) (fun  hp11 => gR hp11 l0 12 42 (fun v12 => gI hp11 l0 12 67 (fun v13 => sI hp11 v12 l2 v13 (fun hp14 => some (none, hp14))))))))))))))) else some (none, hp)))
theorem t_275_380 {X : mjX} {d C S kc ks : Nat} {R : mjR} (hR : mjC R d) (h1 : kc ≤ C) (h2 : ks ≤ S) : P_275_380 X (d + 1) C S kc ks (b_275_380 R) := by
  intro l0 l2 hp q h
  unfold b_275_380 at h
  refine mjr_aload_n (x := l0) D_275_380 rfl ?_
  refine mjq_gI D_275_381 fr_12_333 h (fun v1 h => ?_)
  refine mjq_if_le (tgt := 388) D_275_384 rfl h (fun h => ?_) (fun h => ?_)
  · refine mjr_aload_n (x := l0) D_275_388 rfl ?_
    refine mjr_iload_n (x := l2) D_275_389 rfl ?_
    refine mjq_pI D_275_390 fr_12_369 rfl rfl h (fun hp2 h => ?_)
    refine mjr_aload_n (x := l0) D_275_393 rfl ?_
    refine mjr_aload_n (x := l0) D_275_394 rfl ?_
    refine mjq_gR D_275_395 fr_12_103 h (fun v3 h => ?_)
    refine mjr_iload_n (x := l2) D_275_398 rfl ?_
    refine mjq_aI D_275_399 h (fun v4 h => ?_)
    refine mjq_pI D_275_400 fr_12_372 rfl rfl h (fun hp5 h => ?_)
    refine mjr_aload_n (x := l0) D_275_403 rfl ?_
    refine mjq_gR D_275_404 fr_12_106 h (fun v6 h => ?_)
    refine mjr_iload_n (x := l2) D_275_407 rfl ?_
    refine mjr_aload_n (x := l0) D_275_408 rfl ?_
    refine mjq_gR D_275_409 fr_12_85 h (fun v7 h => ?_)
    refine mjr_aload_n (x := l0) D_275_412 rfl ?_
    refine mjq_gI D_275_413 fr_12_356 h (fun v8 h => ?_)
    refine mjq_aI D_275_416 h (fun v9 h => ?_)
    refine mjq_sI D_275_417 h (fun hp10 h => ?_)
    refine mjr_aload_n (x := l0) D_275_418 rfl ?_
    refine mjq_vN (As := []) (rest := []) D_275_419 mr_12_375 V_279 rfl rfl rfl hR (Nat.le_refl _) h1 h2 h (fun  hp11 h => ?_)
    refine mjr_aload_n (x := l0) D_275_422 rfl ?_
    refine mjq_gR D_275_423 fr_12_112 h (fun v12 h => ?_)
    refine mjr_iload_n (x := l2) D_275_426 rfl ?_
    refine mjr_aload_n (x := l0) D_275_427 rfl ?_
    refine mjq_gI D_275_428 fr_12_372 h (fun v13 h => ?_)
    refine mjq_sI D_275_431 h (fun hp14 h => ?_)
    exact mjq_nret D_275_432 rfl h1 h2 h
  · exact mjq_nret D_275_387 rfl h1 h2 h
noncomputable def b_275_364 (R : mjR) (k222 : Nat → Int32 → Int32 → mjH → mjU) (l0 : Nat) (l2 : Int32) (l3 : Int32) (hp : mjH) : mjU := k222 l0 l2 l3 hp
theorem t_275_364 {X : mjX} {d C S kc ks : Nat} {R : mjR} (hR : mjC R d) (h1 : kc ≤ C) (h2 : ks ≤ S) {k222 : Nat → Int32 → Int32 → mjH → mjU} (hk222 : P_275_222 X (d + 1) C S kc ks k222) : P_275_364 X (d + 1) C S kc ks (b_275_364 R k222) := by
  intro l0 l2 l3 hp q h
  unfold b_275_364 at h
  refine mjr_goto (tgt := 222) D_275_364 rfl ?_
  exact hk222 _ _ _ _ _ h
noncomputable def b_275_260 (R : mjR) (k222 : Nat → Int32 → Int32 → mjH → mjU) (l0 : Nat) (l2 : Int32) (hp : mjH) : mjU := gI hp l0 12 61 (fun v1 => (if v1 ≤ 0 then gR hp l0 12 39 (fun v2 => aI hp v2 l2 (fun v3 => gR hp l0 12 44 (fun v4 => rV hp l0 12 (bI (R 277 [.ref l0] hp) (fun v5 hp6 => sI hp6 v4 (((6 : Int32) * l2) + v3) v5 (fun hp7 => gI hp7 l0 12 61 (fun v8 => (if v8 ≤ 0 then gI hp7 l0 12 3 (fun v9 => (if v9 = (2 : Int32) then gR hp7 l0 12 46 (fun v10 => gL hp7 l0 12 7 (fun v11 => sL hp7 v10 (((6 : Int32) * l2) + v3) v11 (fun hp12 => gR hp12 l0 12 45 (fun v13 => gI hp12 l0 12 4 (fun v14 => sI hp12 v13 (((6 : Int32) * l2) + v3) v14 (fun hp15 => gR hp15 l0 12 39 (fun v16 => aI hp15 v16 l2 (fun v17 => sI hp15 v16 l2 (v17 + (1 : Int32)) (fun hp18 => rV hp18 l0 12 (bN (R 262 [.ref l0] hp18) (fun  hp19 => rV hp19 l0 12 (bI (R 271 [.ref l0, .int (44 : Int32)] hp19) (fun v20 hp21 => (if v20 = 0 then b_275_364 R k222 l0 l2 v20 hp21 else rV hp21 l0 12 (bN (R 262 [.ref l0] hp21) (fun  hp22 => b_275_364 R k222 l0 l2 v20 hp22)))))))))))))))) else rV hp7 l0 12 (bN (R 269 [.ref l0] hp7) (fun  hp23 => some (none, hp23))))) else some (none, hp7))))))))) else some (none, hp)))
theorem t_275_260 {X : mjX} {d C S kc ks : Nat} {R : mjR} (hR : mjC R d) (h1 : kc ≤ C) (h2 : ks ≤ S) {k222 : Nat → Int32 → Int32 → mjH → mjU} (hk222 : P_275_222 X (d + 1) C S kc ks k222) : P_275_260 X (d + 1) C S kc ks (b_275_260 R k222) := by
  intro l0 l2 hp q h
  unfold b_275_260 at h
  refine mjr_aload_n (x := l0) D_275_260 rfl ?_
  refine mjq_gI D_275_261 fr_12_333 h (fun v1 h => ?_)
  refine mjq_if_le (tgt := 268) D_275_264 rfl h (fun h => ?_) (fun h => ?_)
  · refine mjq_bi (v := (6 : Int32)) D_275_268 rfl ?_
    refine mjr_iload_n (x := l2) D_275_270 rfl ?_
    refine mjr_imul D_275_271 ?_
    refine mjr_aload_n (x := l0) D_275_272 rfl ?_
    refine mjq_gR D_275_273 fr_12_103 h (fun v2 h => ?_)
    refine mjr_iload_n (x := l2) D_275_276 rfl ?_
    refine mjq_aI D_275_277 h (fun v3 h => ?_)
    refine mjr_iadd D_275_278 ?_
    refine mjq_istore (lo' := [some (.ref l0), none, some (.int l2), none, some (.int (((6 : Int32) * l2) + v3))]) D_275_279 (Nat.le_of_ble_eq_true rfl) rfl ?_
    refine mjr_aload_n (x := l0) D_275_281 rfl ?_
    refine mjq_gR D_275_282 fr_12_118 h (fun v4 h => ?_)
    refine mjr_iload (x := (((6 : Int32) * l2) + v3)) D_275_285 rfl ?_
    refine mjr_aload_n (x := l0) D_275_287 rfl ?_
    refine mjq_vI (As := []) (rest := [.int (((6 : Int32) * l2) + v3), .ref v4]) D_275_288 mr_12_408 V_277 rfl rfl rfl hR (Nat.le_refl _) h1 h2 h (fun v5 hp6 h => ?_)
    refine mjq_sI D_275_291 h (fun hp7 h => ?_)
    refine mjr_aload_n (x := l0) D_275_292 rfl ?_
    refine mjq_gI D_275_293 fr_12_333 h (fun v8 h => ?_)
    refine mjq_if_le (tgt := 300) D_275_296 rfl h (fun h => ?_) (fun h => ?_)
    · refine mjr_aload_n (x := l0) D_275_300 rfl ?_
      refine mjq_gI D_275_301 fr_12_316 h (fun v9 h => ?_)
      refine mjq_ic (v := (2 : Int32)) D_275_304 rfl ?_
      refine mjq_icmp_eq (tgt := 313) D_275_305 rfl h (fun h => ?_) (fun h => ?_)
      · refine mjr_aload_n (x := l0) D_275_313 rfl ?_
        refine mjq_gR D_275_314 fr_12_124 h (fun v10 h => ?_)
        refine mjr_iload (x := (((6 : Int32) * l2) + v3)) D_275_317 rfl ?_
        refine mjr_aload_n (x := l0) D_275_319 rfl ?_
        refine mjq_gL D_275_320 fr_12_322 h (fun v11 h => ?_)
        refine mjq_sL D_275_323 h (fun hp12 h => ?_)
        refine mjr_aload_n (x := l0) D_275_324 rfl ?_
        refine mjq_gR D_275_325 fr_12_121 h (fun v13 h => ?_)
        refine mjr_iload (x := (((6 : Int32) * l2) + v3)) D_275_328 rfl ?_
        refine mjr_aload_n (x := l0) D_275_330 rfl ?_
        refine mjq_gI D_275_331 fr_12_310 h (fun v14 h => ?_)
        refine mjq_sI D_275_334 h (fun hp15 h => ?_)
        refine mjr_aload_n (x := l0) D_275_335 rfl ?_
        refine mjq_gR D_275_336 fr_12_103 h (fun v16 h => ?_)
        refine mjr_iload_n (x := l2) D_275_339 rfl ?_
        refine mjr_dup2 D_275_340 rfl rfl ?_
        refine mjq_aI D_275_341 h (fun v17 h => ?_)
        refine mjq_ic (v := (1 : Int32)) D_275_342 rfl ?_
        refine mjr_iadd D_275_343 ?_
        refine mjq_sI D_275_344 h (fun hp18 h => ?_)
        refine mjr_aload_n (x := l0) D_275_345 rfl ?_
        refine mjq_vN (As := []) (rest := []) D_275_346 mr_12_350 V_262 rfl rfl rfl hR (Nat.le_refl _) h1 h2 h (fun  hp19 h => ?_)
        refine mjr_aload_n (x := l0) D_275_349 rfl ?_
        refine mjq_bi (v := (44 : Int32)) D_275_350 rfl ?_
        refine mjq_vI (As := [.int (44 : Int32)]) (rest := []) D_275_352 mr_12_343 V_271 rfl rfl rfl hR (Nat.le_refl _) h1 h2 h (fun v20 hp21 h => ?_)
        refine mjq_istore_n (lo' := [some (.ref l0), none, some (.int l2), some (.int v20), some (.int (((6 : Int32) * l2) + v3))]) D_275_355 (Nat.le_of_ble_eq_true rfl) rfl ?_
        refine mjr_iload_n (x := v20) D_275_356 rfl ?_
        refine mjq_if_eq (tgt := 364) D_275_357 rfl h (fun h => ?_) (fun h => ?_)
        · exact mjG.fg (lo' := [some (.ref l0), none, some (.int l2), some (.int v20), none]) (And.intro rfl (And.intro rfl (And.intro rfl True.intro))) ((t_275_364 hR h1 h2 hk222) _ _ _ _ _ h)
        · refine mjr_aload_n (x := l0) D_275_360 rfl ?_
          refine mjq_vN (As := []) (rest := []) D_275_361 mr_12_350 V_262 rfl rfl rfl hR (Nat.le_refl _) h1 h2 h (fun  hp22 h => ?_)
          exact mjG.fg (lo' := [some (.ref l0), none, some (.int l2), some (.int v20), none]) (And.intro rfl (And.intro rfl (And.intro rfl True.intro))) ((t_275_364 hR h1 h2 hk222) _ _ _ _ _ h)
      · refine mjr_aload_n (x := l0) D_275_308 rfl ?_
        refine mjq_vN (As := []) (rest := []) D_275_309 mr_12_347 V_269 rfl rfl rfl hR (Nat.le_refl _) h1 h2 h (fun  hp23 h => ?_)
        exact mjq_nret D_275_312 rfl h1 h2 h
    · exact mjq_nret D_275_299 rfl h1 h2 h
  · exact mjq_nret D_275_267 rfl h1 h2 h
noncomputable def b_275_222 (R : mjR) (k222 : Nat → Int32 → Int32 → mjH → mjU) (l0 : Nat) (l2 : Int32) (l3 : Int32) (hp : mjH) : mjU := (if l3 = 0 then gI hp l0 12 61 (fun v1 => (if v1 = 0 then rV hp l0 12 (bN (R 278 [.ref l0, .int (41 : Int32)] hp) (fun  hp2 => b_275_380 R l0 l2 hp2)) else b_275_380 R l0 l2 hp)) else rV hp l0 12 (bI (R 276 [.ref l0] hp) (fun v3 hp4 => (if v3 = 0 then rV hp4 l0 12 (bN (R 269 [.ref l0] hp4) (fun  hp9 => b_275_260 R k222 l0 l2 hp9)) else gR hp4 l0 12 39 (fun v5 => aI hp4 v5 l2 (fun v6 => (if v6 = (6 : Int32) then gI hp4 l0 12 4 (fun v7 => rV hp4 l0 12 (bN (R 268 [.ref l0, .int (3 : Int32), .int v7] hp4) (fun  hp8 => b_275_260 R k222 l0 l2 hp8))) else b_275_260 R k222 l0 l2 hp4)))))))
theorem t_275_222 {X : mjX} {d C S kc ks : Nat} {R : mjR} (hR : mjC R d) (h1 : kc ≤ C) (h2 : ks ≤ S) {k222 : Nat → Int32 → Int32 → mjH → mjU} (hk222 : P_275_222 X (d + 1) C S kc ks k222) : P_275_222 X (d + 1) C S kc ks (b_275_222 R k222) := by
  intro l0 l2 l3 hp q h
  unfold b_275_222 at h
  refine mjr_iload_n (x := l3) D_275_222 rfl ?_
  refine mjq_if_eq (tgt := 367) D_275_223 rfl h (fun h => ?_) (fun h => ?_)
  · refine mjr_aload_n (x := l0) D_275_367 rfl ?_
    refine mjq_gI D_275_368 fr_12_333 h (fun v1 h => ?_)
    refine mjq_if_ne (tgt := 380) D_275_371 rfl h (fun h => ?_) (fun h => ?_)
    · exact mjG.fg (lo' := [some (.ref l0), none, some (.int l2), none, none]) (And.intro rfl (And.intro rfl True.intro)) ((t_275_380 hR h1 h2) _ _ _ _ h)
    · refine mjr_aload_n (x := l0) D_275_374 rfl ?_
      refine mjq_bi (v := (41 : Int32)) D_275_375 rfl ?_
      refine mjq_vN (As := [.int (41 : Int32)]) (rest := []) D_275_377 mr_12_397 V_278 rfl rfl rfl hR (Nat.le_refl _) h1 h2 h (fun  hp2 h => ?_)
      exact mjG.fg (lo' := [some (.ref l0), none, some (.int l2), none, none]) (And.intro rfl (And.intro rfl True.intro)) ((t_275_380 hR h1 h2) _ _ _ _ h)
  · refine mjr_aload_n (x := l0) D_275_226 rfl ?_
    refine mjq_vI (As := []) (rest := []) D_275_227 mr_12_404 V_276 rfl rfl rfl hR (Nat.le_refl _) h1 h2 h (fun v3 hp4 h => ?_)
    refine mjq_if_ne (tgt := 240) D_275_230 rfl h (fun h => ?_) (fun h => ?_)
    · refine mjr_aload_n (x := l0) D_275_240 rfl ?_
      refine mjq_gR D_275_241 fr_12_103 h (fun v5 h => ?_)
      refine mjr_iload_n (x := l2) D_275_244 rfl ?_
      refine mjq_aI D_275_245 h (fun v6 h => ?_)
      refine mjq_bi (v := (6 : Int32)) D_275_246 rfl ?_
      refine mjq_icmp_ne (tgt := 260) D_275_248 rfl h (fun h => ?_) (fun h => ?_)
      · exact mjG.fg (lo' := [some (.ref l0), none, some (.int l2), none, none]) (And.intro rfl (And.intro rfl True.intro)) ((t_275_260 hR h1 h2 hk222) _ _ _ _ h)
      · refine mjr_aload_n (x := l0) D_275_251 rfl ?_
        refine mjq_ic (v := (3 : Int32)) D_275_252 rfl ?_
        refine mjr_aload_n (x := l0) D_275_253 rfl ?_
        refine mjq_gI D_275_254 fr_12_310 h (fun v7 h => ?_)
        refine mjq_vN (As := [.int (3 : Int32), .int v7]) (rest := []) D_275_257 mr_12_339 V_268 rfl rfl rfl hR (Nat.le_refl _) h1 h2 h (fun  hp8 h => ?_)
        exact mjG.fg (lo' := [some (.ref l0), none, some (.int l2), none, none]) (And.intro rfl (And.intro rfl True.intro)) ((t_275_260 hR h1 h2 hk222) _ _ _ _ h)
    · refine mjr_aload_n (x := l0) D_275_233 rfl ?_
      refine mjq_vN (As := []) (rest := []) D_275_234 mr_12_347 V_269 rfl rfl rfl hR (Nat.le_refl _) h1 h2 h (fun  hp9 h => ?_)
      refine mjr_goto (tgt := 260) D_275_237 rfl ?_
      exact mjG.fg (lo' := [some (.ref l0), none, some (.int l2), none, none]) (And.intro rfl (And.intro rfl True.intro)) ((t_275_260 hR h1 h2 hk222) _ _ _ _ h)
noncomputable def L_275_222 (R : mjR) (n : Nat) : Nat → Int32 → Int32 → mjH → mjU := Nat.rec (motive := fun _ => Nat → Int32 → Int32 → mjH → mjU) (fun _ _ _ _ => none) (fun _ self => b_275_222 R self) n
theorem T_275_222 {X : mjX} {d C S kc ks : Nat} {R : mjR} (hR : mjC R d) (h1 : kc ≤ C) (h2 : ks ≤ S) (n : Nat) : P_275_222 X (d + 1) C S kc ks (L_275_222 R n) := by
  induction n with
  | zero => intro _ _ _ _ _ h; exact mj_no h
  | succ n ih => exact t_275_222 hR h1 h2 ih
noncomputable def b_275_221 (R : mjR) (l0 : Nat) (l2 : Int32) (s0 : Int32) (hp : mjH) : mjU := L_275_222 R mjN l0 l2 s0 hp
theorem t_275_221 {X : mjX} {d C S kc ks : Nat} {R : mjR} (hR : mjC R d) (h1 : kc ≤ C) (h2 : ks ≤ S) : P_275_221 X (d + 1) C S kc ks (b_275_221 R) := by
  intro l0 l2 s0 hp q h
  unfold b_275_221 at h
  refine mjq_istore_n (lo' := [some (.ref l0), none, some (.int l2), some (.int s0), none]) D_275_221 (Nat.le_of_ble_eq_true rfl) rfl ?_
  exact (T_275_222 hR h1 h2 mjN) _ _ _ _ _ h
noncomputable def b_275_220 (R : mjR) (l0 : Nat) (l2 : Int32) (hp : mjH) : mjU := b_275_221 R l0 l2 (0 : Int32) hp
theorem t_275_220 {X : mjX} {d C S kc ks : Nat} {R : mjR} (hR : mjC R d) (h1 : kc ≤ C) (h2 : ks ≤ S) : P_275_220 X (d + 1) C S kc ks (b_275_220 R) := by
  intro l0 l2 hp q h
  unfold b_275_220 at h
  refine mjq_ic (v := (0 : Int32)) D_275_220 rfl ?_
  exact (t_275_221 hR h1 h2) _ _ _ _ _ h
noncomputable def b_275_177 (R : mjR) (l0 : Nat) (l2 : Int32) (s0 : Nat) (s1 : Int32) (s2 : Int32) (hp : mjH) : mjU := sI hp s0 s1 s2 (fun hp1 => gR hp1 l0 12 36 (fun v2 => aI hp1 v2 l2 (fun v3 => (if v3 = 0 then rV hp1 l0 12 (bN (R 270 [.ref l0, .int (59 : Int32)] hp1) (fun  hp8 => some (none, hp8))) else rV hp1 l0 12 (bN (R 274 [.ref l0, .int (40 : Int32)] hp1) (fun  hp4 => gI hp4 l0 12 61 (fun v5 => (if v5 = 0 then rV hp4 l0 12 (bI (R 271 [.ref l0, .int (41 : Int32)] hp4) (fun v6 hp7 => (if v6 = 0 then b_275_221 R l0 l2 (1 : Int32) hp7 else b_275_220 R l0 l2 hp7))) else b_275_220 R l0 l2 hp4))))))))
theorem t_275_177 {X : mjX} {d C S kc ks : Nat} {R : mjR} (hR : mjC R d) (h1 : kc ≤ C) (h2 : ks ≤ S) : P_275_177 X (d + 1) C S kc ks (b_275_177 R) := by
  intro l0 l2 s0 s1 s2 hp q h
  unfold b_275_177 at h
  refine mjq_sI D_275_177 h (fun hp1 h => ?_)
  refine mjr_aload_n (x := l0) D_275_178 rfl ?_
  refine mjq_gR D_275_179 fr_12_94 h (fun v2 h => ?_)
  refine mjr_iload_n (x := l2) D_275_182 rfl ?_
  refine mjq_aI D_275_183 h (fun v3 h => ?_)
  refine mjq_if_ne (tgt := 194) D_275_184 rfl h (fun h => ?_) (fun h => ?_)
  · refine mjr_aload_n (x := l0) D_275_194 rfl ?_
    refine mjq_bi (v := (40 : Int32)) D_275_195 rfl ?_
    refine mjq_vN (As := [.int (40 : Int32)]) (rest := []) D_275_197 mr_12_391 V_274 rfl rfl rfl hR (Nat.le_refl _) h1 h2 h (fun  hp4 h => ?_)
    refine mjr_aload_n (x := l0) D_275_200 rfl ?_
    refine mjq_gI D_275_201 fr_12_333 h (fun v5 h => ?_)
    refine mjq_if_ne (tgt := 220) D_275_204 rfl h (fun h => ?_) (fun h => ?_)
    · exact (t_275_220 hR h1 h2) _ _ _ _ h
    · refine mjr_aload_n (x := l0) D_275_207 rfl ?_
      refine mjq_bi (v := (41 : Int32)) D_275_208 rfl ?_
      refine mjq_vI (As := [.int (41 : Int32)]) (rest := []) D_275_210 mr_12_343 V_271 rfl rfl rfl hR (Nat.le_refl _) h1 h2 h (fun v6 hp7 h => ?_)
      refine mjq_if_ne (tgt := 220) D_275_213 rfl h (fun h => ?_) (fun h => ?_)
      · exact (t_275_220 hR h1 h2) _ _ _ _ h
      · refine mjq_ic (v := (1 : Int32)) D_275_216 rfl ?_
        refine mjr_goto (tgt := 221) D_275_217 rfl ?_
        exact (t_275_221 hR h1 h2) _ _ _ _ _ h
  · refine mjr_aload_n (x := l0) D_275_187 rfl ?_
    refine mjq_bi (v := (59 : Int32)) D_275_188 rfl ?_
    refine mjq_vN (As := [.int (59 : Int32)]) (rest := []) D_275_190 mr_12_381 V_270 rfl rfl rfl hR (Nat.le_refl _) h1 h2 h (fun  hp8 h => ?_)
    exact mjq_nret D_275_193 rfl h1 h2 h
noncomputable def b_275_0 (R : mjR) (l0 : Nat) (l1 : Int32) (hp : mjH) : mjU := rV hp l0 12 (bI (R 276 [.ref l0] hp) (fun v1 hp2 => (if v1 = 0 then rV hp2 l0 12 (bN (R 269 [.ref l0] hp2) (fun  hp43 => some (none, hp43))) else gR hp2 l0 12 19 (fun v3 => aI hp2 v3 l1 (fun v4 => (if v4 = (24 : Int32) then gI hp2 l0 12 4 (fun v41 => rV hp2 l0 12 (bN (R 268 [.ref l0, .int (3 : Int32), .int v41] hp2) (fun  hp42 => some (none, hp42)))) else gI hp2 l0 12 63 (fun v5 => gR hp2 l0 12 31 (fun v6 => gI hp2 l0 12 63 (fun v7 => aI hp2 v6 v7 (fun v8 => gR hp2 l0 12 35 (fun v9 => sI hp2 v9 (((400 : Int32) * v5) + v8) l1 (fun hp10 => gR hp10 l0 12 37 (fun v11 => rV hp10 l0 12 (bI (R 277 [.ref l0] hp10) (fun v12 hp13 => sI hp13 v11 (((400 : Int32) * v5) + v8) v12 (fun hp14 => gI hp14 l0 12 61 (fun v15 => (if v15 ≤ 0 then gI hp14 l0 12 3 (fun v16 => (if v16 = (2 : Int32) then gR hp14 l0 12 31 (fun v17 => gI hp14 l0 12 63 (fun v18 => aI hp14 v17 v18 (fun v19 => sI hp14 v17 v18 (v19 + (1 : Int32)) (fun hp20 => gR hp20 l0 12 19 (fun v21 => aI hp20 v21 l1 (fun v22 => sI hp20 v21 l1 (v22 + (1 : Int32)) (fun hp23 => gR hp23 l0 12 43 (fun v24 => gL hp23 l0 12 7 (fun v25 => sL hp23 v24 (((400 : Int32) * v5) + v8) v25 (fun hp26 => gR hp26 l0 12 38 (fun v27 => gI hp26 l0 12 4 (fun v28 => sI hp26 v27 (((400 : Int32) * v5) + v8) v28 (fun hp29 => gR hp29 l0 12 39 (fun v30 => sI hp29 v30 (((400 : Int32) * v5) + v8) (0 : Int32) (fun hp31 => gR hp31 l0 12 40 (fun v32 => sI hp31 v32 (((400 : Int32) * v5) + v8) (-1 : Int32) (fun hp33 => gR hp33 l0 12 42 (fun v34 => sI hp33 v34 (((400 : Int32) * v5) + v8) (0 : Int32) (fun hp35 => rV hp35 l0 12 (bN (R 262 [.ref l0] hp35) (fun  hp36 => gR hp36 l0 12 36 (fun v37 => rV hp36 l0 12 (bI (R 271 [.ref l0, .int (40 : Int32)] hp36) (fun v38 hp39 => (if v38 = 0 then b_275_177 R l0 (((400 : Int32) * v5) + v8) v37 (((400 : Int32) * v5) + v8) (0 : Int32) hp39 else b_275_177 R l0 (((400 : Int32) * v5) + v8) v37 (((400 : Int32) * v5) + v8) (1 : Int32) hp39))))))))))))))))))))))))) else rV hp14 l0 12 (bN (R 269 [.ref l0] hp14) (fun  hp40 => some (none, hp40))))) else some (none, hp14)))))))))))))))))))
theorem t_275_0 {X : mjX} {d C S kc ks : Nat} {R : mjR} (hR : mjC R d) (h1 : kc ≤ C) (h2 : ks ≤ S) : P_275_0 X (d + 1) C S kc ks (b_275_0 R) := by
  intro l0 l1 hp q h
  unfold b_275_0 at h
  refine mjr_aload_n (x := l0) D_275_0 rfl ?_
  refine mjq_vI (As := []) (rest := []) D_275_1 mr_12_404 V_276 rfl rfl rfl hR (Nat.le_refl _) h1 h2 h (fun v1 hp2 h => ?_)
  refine mjq_if_ne (tgt := 12) D_275_4 rfl h (fun h => ?_) (fun h => ?_)
  · refine mjr_aload_n (x := l0) D_275_12 rfl ?_
    refine mjq_gR D_275_13 fr_12_42 h (fun v3 h => ?_)
    refine mjr_iload_n (x := l1) D_275_16 rfl ?_
    refine mjq_aI D_275_17 h (fun v4 h => ?_)
    refine mjq_bi (v := (24 : Int32)) D_275_18 rfl ?_
    refine mjq_icmp_ne (tgt := 33) D_275_20 rfl h (fun h => ?_) (fun h => ?_)
    · refine mjq_si (v := (400 : Int32)) D_275_33 rfl ?_
      refine mjr_aload_n (x := l0) D_275_36 rfl ?_
      refine mjq_gI D_275_37 fr_12_356 h (fun v5 h => ?_)
      refine mjr_imul D_275_40 ?_
      refine mjr_aload_n (x := l0) D_275_41 rfl ?_
      refine mjq_gR D_275_42 fr_12_79 h (fun v6 h => ?_)
      refine mjr_aload_n (x := l0) D_275_45 rfl ?_
      refine mjq_gI D_275_46 fr_12_356 h (fun v7 h => ?_)
      refine mjq_aI D_275_49 h (fun v8 h => ?_)
      refine mjr_iadd D_275_50 ?_
      refine mjq_istore_n (lo' := [some (.ref l0), some (.int l1), some (.int (((400 : Int32) * v5) + v8)), none, none]) D_275_51 (Nat.le_of_ble_eq_true rfl) rfl ?_
      refine mjr_aload_n (x := l0) D_275_52 rfl ?_
      refine mjq_gR D_275_53 fr_12_91 h (fun v9 h => ?_)
      refine mjr_iload_n (x := (((400 : Int32) * v5) + v8)) D_275_56 rfl ?_
      refine mjr_iload_n (x := l1) D_275_57 rfl ?_
      refine mjq_sI D_275_58 h (fun hp10 h => ?_)
      refine mjr_aload_n (x := l0) D_275_59 rfl ?_
      refine mjq_gR D_275_60 fr_12_97 h (fun v11 h => ?_)
      refine mjr_iload_n (x := (((400 : Int32) * v5) + v8)) D_275_63 rfl ?_
      refine mjr_aload_n (x := l0) D_275_64 rfl ?_
      refine mjq_vI (As := []) (rest := [.int (((400 : Int32) * v5) + v8), .ref v11]) D_275_65 mr_12_408 V_277 rfl rfl rfl hR (Nat.le_refl _) h1 h2 h (fun v12 hp13 h => ?_)
      refine mjq_sI D_275_68 h (fun hp14 h => ?_)
      refine mjr_aload_n (x := l0) D_275_69 rfl ?_
      refine mjq_gI D_275_70 fr_12_333 h (fun v15 h => ?_)
      refine mjq_if_le (tgt := 77) D_275_73 rfl h (fun h => ?_) (fun h => ?_)
      · refine mjr_aload_n (x := l0) D_275_77 rfl ?_
        refine mjq_gI D_275_78 fr_12_316 h (fun v16 h => ?_)
        refine mjq_ic (v := (2 : Int32)) D_275_81 rfl ?_
        refine mjq_icmp_eq (tgt := 90) D_275_82 rfl h (fun h => ?_) (fun h => ?_)
        · refine mjr_aload_n (x := l0) D_275_90 rfl ?_
          refine mjq_gR D_275_91 fr_12_79 h (fun v17 h => ?_)
          refine mjr_aload_n (x := l0) D_275_94 rfl ?_
          refine mjq_gI D_275_95 fr_12_356 h (fun v18 h => ?_)
          refine mjr_dup2 D_275_98 rfl rfl ?_
          refine mjq_aI D_275_99 h (fun v19 h => ?_)
          refine mjq_ic (v := (1 : Int32)) D_275_100 rfl ?_
          refine mjr_iadd D_275_101 ?_
          refine mjq_sI D_275_102 h (fun hp20 h => ?_)
          refine mjr_aload_n (x := l0) D_275_103 rfl ?_
          refine mjq_gR D_275_104 fr_12_42 h (fun v21 h => ?_)
          refine mjr_iload_n (x := l1) D_275_107 rfl ?_
          refine mjr_dup2 D_275_108 rfl rfl ?_
          refine mjq_aI D_275_109 h (fun v22 h => ?_)
          refine mjq_ic (v := (1 : Int32)) D_275_110 rfl ?_
          refine mjr_iadd D_275_111 ?_
          refine mjq_sI D_275_112 h (fun hp23 h => ?_)
          refine mjr_aload_n (x := l0) D_275_113 rfl ?_
          refine mjq_gR D_275_114 fr_12_115 h (fun v24 h => ?_)
          refine mjr_iload_n (x := (((400 : Int32) * v5) + v8)) D_275_117 rfl ?_
          refine mjr_aload_n (x := l0) D_275_118 rfl ?_
          refine mjq_gL D_275_119 fr_12_322 h (fun v25 h => ?_)
          refine mjq_sL D_275_122 h (fun hp26 h => ?_)
          refine mjr_aload_n (x := l0) D_275_123 rfl ?_
          refine mjq_gR D_275_124 fr_12_100 h (fun v27 h => ?_)
          refine mjr_iload_n (x := (((400 : Int32) * v5) + v8)) D_275_127 rfl ?_
          refine mjr_aload_n (x := l0) D_275_128 rfl ?_
          refine mjq_gI D_275_129 fr_12_310 h (fun v28 h => ?_)
          refine mjq_sI D_275_132 h (fun hp29 h => ?_)
          refine mjr_aload_n (x := l0) D_275_133 rfl ?_
          refine mjq_gR D_275_134 fr_12_103 h (fun v30 h => ?_)
          refine mjr_iload_n (x := (((400 : Int32) * v5) + v8)) D_275_137 rfl ?_
          refine mjq_ic (v := (0 : Int32)) D_275_138 rfl ?_
          refine mjq_sI D_275_139 h (fun hp31 h => ?_)
          refine mjr_aload_n (x := l0) D_275_140 rfl ?_
          refine mjq_gR D_275_141 fr_12_106 h (fun v32 h => ?_)
          refine mjr_iload_n (x := (((400 : Int32) * v5) + v8)) D_275_144 rfl ?_
          refine mjq_ic (v := (-1 : Int32)) D_275_145 rfl ?_
          refine mjq_sI D_275_146 h (fun hp33 h => ?_)
          refine mjr_aload_n (x := l0) D_275_147 rfl ?_
          refine mjq_gR D_275_148 fr_12_112 h (fun v34 h => ?_)
          refine mjr_iload_n (x := (((400 : Int32) * v5) + v8)) D_275_151 rfl ?_
          refine mjq_ic (v := (0 : Int32)) D_275_152 rfl ?_
          refine mjq_sI D_275_153 h (fun hp35 h => ?_)
          refine mjr_aload_n (x := l0) D_275_154 rfl ?_
          refine mjq_vN (As := []) (rest := []) D_275_155 mr_12_350 V_262 rfl rfl rfl hR (Nat.le_refl _) h1 h2 h (fun  hp36 h => ?_)
          refine mjr_aload_n (x := l0) D_275_158 rfl ?_
          refine mjq_gR D_275_159 fr_12_94 h (fun v37 h => ?_)
          refine mjr_iload_n (x := (((400 : Int32) * v5) + v8)) D_275_162 rfl ?_
          refine mjr_aload_n (x := l0) D_275_163 rfl ?_
          refine mjq_bi (v := (40 : Int32)) D_275_164 rfl ?_
          refine mjq_vI (As := [.int (40 : Int32)]) (rest := [.int (((400 : Int32) * v5) + v8), .ref v37]) D_275_166 mr_12_343 V_271 rfl rfl rfl hR (Nat.le_refl _) h1 h2 h (fun v38 hp39 h => ?_)
          refine mjq_if_eq (tgt := 176) D_275_169 rfl h (fun h => ?_) (fun h => ?_)
          · refine mjq_ic (v := (0 : Int32)) D_275_176 rfl ?_
            exact mjG.fg (lo' := [some (.ref l0), none, some (.int (((400 : Int32) * v5) + v8)), none, none]) (And.intro rfl (And.intro rfl True.intro)) ((t_275_177 hR h1 h2) _ _ _ _ _ _ _ h)
          · refine mjq_ic (v := (1 : Int32)) D_275_172 rfl ?_
            refine mjr_goto (tgt := 177) D_275_173 rfl ?_
            exact mjG.fg (lo' := [some (.ref l0), none, some (.int (((400 : Int32) * v5) + v8)), none, none]) (And.intro rfl (And.intro rfl True.intro)) ((t_275_177 hR h1 h2) _ _ _ _ _ _ _ h)
        · refine mjr_aload_n (x := l0) D_275_85 rfl ?_
          refine mjq_vN (As := []) (rest := []) D_275_86 mr_12_347 V_269 rfl rfl rfl hR (Nat.le_refl _) h1 h2 h (fun  hp40 h => ?_)
          exact mjq_nret D_275_89 rfl h1 h2 h
      · exact mjq_nret D_275_76 rfl h1 h2 h
    · refine mjr_aload_n (x := l0) D_275_23 rfl ?_
      refine mjq_ic (v := (3 : Int32)) D_275_24 rfl ?_
      refine mjr_aload_n (x := l0) D_275_25 rfl ?_
      refine mjq_gI D_275_26 fr_12_310 h (fun v41 h => ?_)
      refine mjq_vN (As := [.int (3 : Int32), .int v41]) (rest := []) D_275_29 mr_12_339 V_268 rfl rfl rfl hR (Nat.le_refl _) h1 h2 h (fun  hp42 h => ?_)
      exact mjq_nret D_275_32 rfl h1 h2 h
  · refine mjr_aload_n (x := l0) D_275_7 rfl ?_
    refine mjq_vN (As := []) (rest := []) D_275_8 mr_12_347 V_269 rfl rfl rfl hR (Nat.le_refl _) h1 h2 h (fun  hp43 h => ?_)
    exact mjq_nret D_275_11 rfl h1 h2 h
noncomputable def f_275 (R : mjR) (a0 : Nat) (a1 : Int32) (hp : mjH) : mjU := b_275_0 R a0 a1 hp
theorem c_275 {R : mjR} {d : Nat} (hR : mjC R d) {a0 : Nat} {a1 : Int32} {hp : mjH} {q : Option Value × mjH} (h : f_275 R a0 a1 hp = some q) : mjM (d + 1) 0 0 275 [.ref a0, .int a1] hp (mjEq q) :=
  mjM_of Ja_275 (Nat.le_of_ble_eq_true rfl) (mjG.fg (lo' := [some (.ref a0), some (.int a1), none, none, none]) (And.intro rfl (And.intro rfl True.intro)) ((t_275_0 hR (Nat.le_refl 0) (Nat.le_refl 0)) a0 a1 hp q h))
def J_276 : mjI := (⟨"OwnerHeapModel", "isType", "()Z"⟩, 12, prog_14_method_22_code, 1, (some .boolean), 0, false)
theorem Ja_276 : mjMt 276 = some J_276 := by rfl
theorem D_276_0 : decode J_276.2.2.1 0 = .ok (.aload_n 0, 1) := dzq_42 (by decide +kernel)
theorem D_276_1 : decode J_276.2.2.1 1 = .ok (.bipush 6, 2) := dzq_16 (by decide +kernel)
theorem D_276_3 : decode J_276.2.2.1 3 = .ok (.invokevirtual 363, 3) := dzq_182 (by decide +kernel)
theorem D_276_6 : decode J_276.2.2.1 6 = .ok (.ifCond .ne 11, 3) := dzq_154 (by decide +kernel)
theorem D_276_9 : decode J_276.2.2.1 9 = .ok (.aload_n 0, 1) := dzq_42 (by decide +kernel)
theorem D_276_10 : decode J_276.2.2.1 10 = .ok (.getfield 316, 3) := dzq_180 (by decide +kernel)
theorem D_276_13 : decode J_276.2.2.1 13 = .ok (.iconst 1, 1) := dzq_4 (by decide +kernel)
theorem D_276_14 : decode J_276.2.2.1 14 = .ok (.if_icmp .ne 7, 3) := dzq_160 (by decide +kernel)
theorem D_276_17 : decode J_276.2.2.1 17 = .ok (.iconst 1, 1) := dzq_4 (by decide +kernel)
theorem D_276_18 : decode J_276.2.2.1 18 = .ok (.goto 4, 3) := dzq_167 (by decide +kernel)
theorem D_276_21 : decode J_276.2.2.1 21 = .ok (.iconst 0, 1) := dzq_3 (by decide +kernel)
theorem D_276_22 : decode J_276.2.2.1 22 = .ok (.ireturn, 1) := dzq_172 (by decide +kernel)
def P_276_17 (X : mjX) (d C S kc ks : Nat) (k : mjH → mjU) : Prop := ∀  (hp : mjH) (q : Option Value × mjH), k  hp = some q → mjG X d C S J_276 (mjEq q) 17 [none] [] hp kc ks
def P_276_0 (X : mjX) (d C S kc ks : Nat) (k : Nat → mjH → mjU) : Prop := ∀ (l0 : Nat) (hp : mjH) (q : Option Value × mjH), k l0 hp = some q → mjG X d C S J_276 (mjEq q) 0 [some (.ref l0)] [] hp kc ks
noncomputable def b_276_17 (R : mjR)  (hp : mjH) : mjU := some (some (.int (1 : Int32)), hp)
theorem t_276_17 {X : mjX} {d C S kc ks : Nat} {R : mjR} (hR : mjC R d) (h1 : kc ≤ C) (h2 : ks ≤ S) : P_276_17 X (d + 1) C S kc ks (b_276_17 R) := by
  intro  hp q h
  unfold b_276_17 at h
  refine mjq_ic (v := (1 : Int32)) D_276_17 rfl ?_
  refine mjr_goto (tgt := 22) D_276_18 rfl ?_
  exact mjr_ireturn D_276_22 rfl rfl h1 h2 (Option.some.inj h)
noncomputable def b_276_0 (R : mjR) (l0 : Nat) (hp : mjH) : mjU := rV hp l0 12 (bI (R 266 [.ref l0, .int (6 : Int32)] hp) (fun v1 hp2 => (if v1 = 0 then gI hp2 l0 12 3 (fun v3 => (if v3 = (1 : Int32) then b_276_17 R hp2 else some (some (.int (0 : Int32)), hp2))) else b_276_17 R hp2)))
theorem t_276_0 {X : mjX} {d C S kc ks : Nat} {R : mjR} (hR : mjC R d) (h1 : kc ≤ C) (h2 : ks ≤ S) : P_276_0 X (d + 1) C S kc ks (b_276_0 R) := by
  intro l0 hp q h
  unfold b_276_0 at h
  refine mjr_aload_n (x := l0) D_276_0 rfl ?_
  refine mjq_bi (v := (6 : Int32)) D_276_1 rfl ?_
  refine mjq_vI (As := [.int (6 : Int32)]) (rest := []) D_276_3 mr_12_363 V_266 rfl rfl rfl hR (Nat.le_refl _) h1 h2 h (fun v1 hp2 h => ?_)
  refine mjq_if_ne (tgt := 17) D_276_6 rfl h (fun h => ?_) (fun h => ?_)
  · exact mjG.fg (lo' := [none]) True.intro ((t_276_17 hR h1 h2) _ _ h)
  · refine mjr_aload_n (x := l0) D_276_9 rfl ?_
    refine mjq_gI D_276_10 fr_12_316 h (fun v3 h => ?_)
    refine mjq_ic (v := (1 : Int32)) D_276_13 rfl ?_
    refine mjq_icmp_ne (tgt := 21) D_276_14 rfl h (fun h => ?_) (fun h => ?_)
    · refine mjq_ic (v := (0 : Int32)) D_276_21 rfl ?_
      exact mjr_ireturn D_276_22 rfl rfl h1 h2 (Option.some.inj h)
    · exact mjG.fg (lo' := [none]) True.intro ((t_276_17 hR h1 h2) _ _ h)
noncomputable def f_276 (R : mjR) (a0 : Nat) (hp : mjH) : mjU := b_276_0 R a0 hp
theorem c_276 {R : mjR} {d : Nat} (hR : mjC R d) {a0 : Nat} {hp : mjH} {q : Option Value × mjH} (h : f_276 R a0 hp = some q) : mjM (d + 1) 0 0 276 [.ref a0] hp (mjEq q) :=
  mjM_of Ja_276 (Nat.le_of_ble_eq_true rfl) (mjG.fg (lo' := [some (.ref a0)]) (And.intro rfl True.intro) ((t_276_0 hR (Nat.le_refl 0) (Nat.le_refl 0)) a0 hp q h))
def J_277 : mjI := (⟨"OwnerHeapModel", "readType", "()I"⟩, 12, prog_14_method_23_code, 1, (some .int), 0, false)
theorem Ja_277 : mjMt 277 = some J_277 := by rfl
theorem D_277_0 : decode J_277.2.2.1 0 = .ok (.aload_n 0, 1) := dzq_42 (by decide +kernel)
theorem D_277_1 : decode J_277.2.2.1 1 = .ok (.invokevirtual 404, 3) := dzq_182 (by decide +kernel)
theorem D_277_4 : decode J_277.2.2.1 4 = .ok (.ifCond .ne 9, 3) := dzq_154 (by decide +kernel)
theorem D_277_7 : decode J_277.2.2.1 7 = .ok (.aload_n 0, 1) := dzq_42 (by decide +kernel)
theorem D_277_8 : decode J_277.2.2.1 8 = .ok (.invokevirtual 347, 3) := dzq_182 (by decide +kernel)
theorem D_277_11 : decode J_277.2.2.1 11 = .ok (.iconst (-1), 1) := dzq_2 (by decide +kernel)
theorem D_277_12 : decode J_277.2.2.1 12 = .ok (.ireturn, 1) := dzq_172 (by decide +kernel)
theorem D_277_13 : decode J_277.2.2.1 13 = .ok (.aload_n 0, 1) := dzq_42 (by decide +kernel)
theorem D_277_14 : decode J_277.2.2.1 14 = .ok (.getfield 316, 3) := dzq_180 (by decide +kernel)
theorem D_277_17 : decode J_277.2.2.1 17 = .ok (.iconst 1, 1) := dzq_4 (by decide +kernel)
theorem D_277_18 : decode J_277.2.2.1 18 = .ok (.if_icmp .ne 8, 3) := dzq_160 (by decide +kernel)
theorem D_277_21 : decode J_277.2.2.1 21 = .ok (.aload_n 0, 1) := dzq_42 (by decide +kernel)
theorem D_277_22 : decode J_277.2.2.1 22 = .ok (.invokevirtual 384, 3) := dzq_182 (by decide +kernel)
theorem D_277_25 : decode J_277.2.2.1 25 = .ok (.ireturn, 1) := dzq_172 (by decide +kernel)
theorem D_277_26 : decode J_277.2.2.1 26 = .ok (.aload_n 0, 1) := dzq_42 (by decide +kernel)
theorem D_277_27 : decode J_277.2.2.1 27 = .ok (.invokevirtual 350, 3) := dzq_182 (by decide +kernel)
theorem D_277_30 : decode J_277.2.2.1 30 = .ok (.iconst (-1), 1) := dzq_2 (by decide +kernel)
theorem D_277_31 : decode J_277.2.2.1 31 = .ok (.ireturn, 1) := dzq_172 (by decide +kernel)
def P_277_0 (X : mjX) (d C S kc ks : Nat) (k : Nat → mjH → mjU) : Prop := ∀ (l0 : Nat) (hp : mjH) (q : Option Value × mjH), k l0 hp = some q → mjG X d C S J_277 (mjEq q) 0 [some (.ref l0)] [] hp kc ks
noncomputable def b_277_0 (R : mjR) (l0 : Nat) (hp : mjH) : mjU := rV hp l0 12 (bI (R 276 [.ref l0] hp) (fun v1 hp2 => (if v1 = 0 then rV hp2 l0 12 (bN (R 269 [.ref l0] hp2) (fun  hp7 => some (some (.int (-1 : Int32)), hp7))) else gI hp2 l0 12 3 (fun v3 => (if v3 = (1 : Int32) then rV hp2 l0 12 (bI (R 272 [.ref l0] hp2) (fun v5 hp6 => some (some (.int v5), hp6))) else rV hp2 l0 12 (bN (R 262 [.ref l0] hp2) (fun  hp4 => some (some (.int (-1 : Int32)), hp4))))))))
theorem t_277_0 {X : mjX} {d C S kc ks : Nat} {R : mjR} (hR : mjC R d) (h1 : kc ≤ C) (h2 : ks ≤ S) : P_277_0 X (d + 1) C S kc ks (b_277_0 R) := by
  intro l0 hp q h
  unfold b_277_0 at h
  refine mjr_aload_n (x := l0) D_277_0 rfl ?_
  refine mjq_vI (As := []) (rest := []) D_277_1 mr_12_404 V_276 rfl rfl rfl hR (Nat.le_refl _) h1 h2 h (fun v1 hp2 h => ?_)
  refine mjq_if_ne (tgt := 13) D_277_4 rfl h (fun h => ?_) (fun h => ?_)
  · refine mjr_aload_n (x := l0) D_277_13 rfl ?_
    refine mjq_gI D_277_14 fr_12_316 h (fun v3 h => ?_)
    refine mjq_ic (v := (1 : Int32)) D_277_17 rfl ?_
    refine mjq_icmp_ne (tgt := 26) D_277_18 rfl h (fun h => ?_) (fun h => ?_)
    · refine mjr_aload_n (x := l0) D_277_26 rfl ?_
      refine mjq_vN (As := []) (rest := []) D_277_27 mr_12_350 V_262 rfl rfl rfl hR (Nat.le_refl _) h1 h2 h (fun  hp4 h => ?_)
      refine mjq_ic (v := (-1 : Int32)) D_277_30 rfl ?_
      exact mjq_ret D_277_31 rfl h1 h2 h
    · refine mjr_aload_n (x := l0) D_277_21 rfl ?_
      refine mjq_vI (As := []) (rest := []) D_277_22 mr_12_384 V_272 rfl rfl rfl hR (Nat.le_refl _) h1 h2 h (fun v5 hp6 h => ?_)
      exact mjq_ret D_277_25 rfl h1 h2 h
  · refine mjr_aload_n (x := l0) D_277_7 rfl ?_
    refine mjq_vN (As := []) (rest := []) D_277_8 mr_12_347 V_269 rfl rfl rfl hR (Nat.le_refl _) h1 h2 h (fun  hp7 h => ?_)
    refine mjq_ic (v := (-1 : Int32)) D_277_11 rfl ?_
    exact mjq_ret D_277_12 rfl h1 h2 h
noncomputable def f_277 (R : mjR) (a0 : Nat) (hp : mjH) : mjU := b_277_0 R a0 hp
theorem c_277 {R : mjR} {d : Nat} (hR : mjC R d) {a0 : Nat} {hp : mjH} {q : Option Value × mjH} (h : f_277 R a0 hp = some q) : mjM (d + 1) 0 0 277 [.ref a0] hp (mjEq q) :=
  mjM_of Ja_277 (Nat.le_of_ble_eq_true rfl) (mjG.fg (lo' := [some (.ref a0)]) (And.intro rfl True.intro) ((t_277_0 hR (Nat.le_refl 0) (Nat.le_refl 0)) a0 hp q h))
def J_278 : mjI := (⟨"OwnerHeapModel", "closes", "(I)V"⟩, 12, prog_14_method_15_code, 2, none, 1, false)
theorem Ja_278 : mjMt 278 = some J_278 := by rfl
theorem D_278_0 : decode J_278.2.2.1 0 = .ok (.aload_n 0, 1) := dzq_42 (by decide +kernel)
theorem D_278_1 : decode J_278.2.2.1 1 = .ok (.iload_n 1, 1) := dzq_27 (by decide +kernel)
theorem D_278_2 : decode J_278.2.2.1 2 = .ok (.invokevirtual 343, 3) := dzq_182 (by decide +kernel)
theorem D_278_5 : decode J_278.2.2.1 5 = .ok (.ifCond .ne 8, 3) := dzq_154 (by decide +kernel)
theorem D_278_8 : decode J_278.2.2.1 8 = .ok (.aload_n 0, 1) := dzq_42 (by decide +kernel)
theorem D_278_9 : decode J_278.2.2.1 9 = .ok (.invokevirtual 347, 3) := dzq_182 (by decide +kernel)
theorem D_278_12 : decode J_278.2.2.1 12 = .ok (.return_, 1) := dzq_177 (by decide +kernel)
theorem D_278_13 : decode J_278.2.2.1 13 = .ok (.aload_n 0, 1) := dzq_42 (by decide +kernel)
theorem D_278_14 : decode J_278.2.2.1 14 = .ok (.dup, 1) := dzq_89 (by decide +kernel)
theorem D_278_15 : decode J_278.2.2.1 15 = .ok (.getfield 353, 3) := dzq_180 (by decide +kernel)
theorem D_278_18 : decode J_278.2.2.1 18 = .ok (.iconst 1, 1) := dzq_4 (by decide +kernel)
theorem D_278_19 : decode J_278.2.2.1 19 = .ok (.isub, 1) := dzq_100 (by decide +kernel)
theorem D_278_20 : decode J_278.2.2.1 20 = .ok (.putfield 353, 3) := dzq_181 (by decide +kernel)
theorem D_278_23 : decode J_278.2.2.1 23 = .ok (.aload_n 0, 1) := dzq_42 (by decide +kernel)
theorem D_278_24 : decode J_278.2.2.1 24 = .ok (.invokevirtual 350, 3) := dzq_182 (by decide +kernel)
theorem D_278_27 : decode J_278.2.2.1 27 = .ok (.return_, 1) := dzq_177 (by decide +kernel)
def P_278_0 (X : mjX) (d C S kc ks : Nat) (k : Nat → Int32 → mjH → mjU) : Prop := ∀ (l0 : Nat) (l1 : Int32) (hp : mjH) (q : Option Value × mjH), k l0 l1 hp = some q → mjG X d C S J_278 (mjEq q) 0 [some (.ref l0), some (.int l1)] [] hp kc ks
noncomputable def b_278_0 (R : mjR) (l0 : Nat) (l1 : Int32) (hp : mjH) : mjU := rV hp l0 12 (bI (R 271 [.ref l0, .int l1] hp) (fun v1 hp2 => (if v1 = 0 then rV hp2 l0 12 (bN (R 269 [.ref l0] hp2) (fun  hp6 => some (none, hp6))) else gI hp2 l0 12 64 (fun v3 => pI hp2 l0 12 64 (v3 - (1 : Int32)) (fun hp4 => rV hp4 l0 12 (bN (R 262 [.ref l0] hp4) (fun  hp5 => some (none, hp5))))))))
theorem t_278_0 {X : mjX} {d C S kc ks : Nat} {R : mjR} (hR : mjC R d) (h1 : kc ≤ C) (h2 : ks ≤ S) : P_278_0 X (d + 1) C S kc ks (b_278_0 R) := by
  intro l0 l1 hp q h
  unfold b_278_0 at h
  refine mjr_aload_n (x := l0) D_278_0 rfl ?_
  refine mjr_iload_n (x := l1) D_278_1 rfl ?_
  refine mjq_vI (As := [.int l1]) (rest := []) D_278_2 mr_12_343 V_271 rfl rfl rfl hR (Nat.le_refl _) h1 h2 h (fun v1 hp2 h => ?_)
  refine mjq_if_ne (tgt := 13) D_278_5 rfl h (fun h => ?_) (fun h => ?_)
  · refine mjr_aload_n (x := l0) D_278_13 rfl ?_
    refine mjr_dup D_278_14 rfl ?_
    refine mjq_gI D_278_15 fr_12_353 h (fun v3 h => ?_)
    refine mjq_ic (v := (1 : Int32)) D_278_18 rfl ?_
    refine mjr_isub D_278_19 ?_
    refine mjq_pI D_278_20 fr_12_353 rfl rfl h (fun hp4 h => ?_)
    refine mjr_aload_n (x := l0) D_278_23 rfl ?_
    refine mjq_vN (As := []) (rest := []) D_278_24 mr_12_350 V_262 rfl rfl rfl hR (Nat.le_refl _) h1 h2 h (fun  hp5 h => ?_)
    exact mjq_nret D_278_27 rfl h1 h2 h
  · refine mjr_aload_n (x := l0) D_278_8 rfl ?_
    refine mjq_vN (As := []) (rest := []) D_278_9 mr_12_347 V_269 rfl rfl rfl hR (Nat.le_refl _) h1 h2 h (fun  hp6 h => ?_)
    exact mjq_nret D_278_12 rfl h1 h2 h
noncomputable def f_278 (R : mjR) (a0 : Nat) (a1 : Int32) (hp : mjH) : mjU := b_278_0 R a0 a1 hp
theorem c_278 {R : mjR} {d : Nat} (hR : mjC R d) {a0 : Nat} {a1 : Int32} {hp : mjH} {q : Option Value × mjH} (h : f_278 R a0 a1 hp = some q) : mjM (d + 1) 0 0 278 [.ref a0, .int a1] hp (mjEq q) :=
  mjM_of Ja_278 (Nat.le_of_ble_eq_true rfl) (mjG.fg (lo' := [some (.ref a0), some (.int a1)]) (And.intro rfl (And.intro rfl True.intro)) ((t_278_0 hR (Nat.le_refl 0) (Nat.le_refl 0)) a0 a1 hp q h))
def J_279 : mjI := (⟨"OwnerHeapModel", "readBody", "()V"⟩, 12, prog_14_method_26_code, 1, none, 0, false)
theorem Ja_279 : mjMt 279 = some J_279 := by rfl
theorem D_279_0 : decode J_279.2.2.1 0 = .ok (.aload_n 0, 1) := dzq_42 (by decide +kernel)
theorem D_279_1 : decode J_279.2.2.1 1 = .ok (.iconst 0, 1) := dzq_3 (by decide +kernel)
theorem D_279_2 : decode J_279.2.2.1 2 = .ok (.putfield 411, 3) := dzq_181 (by decide +kernel)
theorem D_279_5 : decode J_279.2.2.1 5 = .ok (.aload_n 0, 1) := dzq_42 (by decide +kernel)
theorem D_279_6 : decode J_279.2.2.1 6 = .ok (.iconst 0, 1) := dzq_3 (by decide +kernel)
theorem D_279_7 : decode J_279.2.2.1 7 = .ok (.iconst (-1), 1) := dzq_2 (by decide +kernel)
theorem D_279_8 : decode J_279.2.2.1 8 = .ok (.iconst (-1), 1) := dzq_2 (by decide +kernel)
theorem D_279_9 : decode J_279.2.2.1 9 = .ok (.invokevirtual 414, 3) := dzq_182 (by decide +kernel)
theorem D_279_12 : decode J_279.2.2.1 12 = .ok (.aload_n 0, 1) := dzq_42 (by decide +kernel)
theorem D_279_13 : decode J_279.2.2.1 13 = .ok (.getfield 333, 3) := dzq_180 (by decide +kernel)
theorem D_279_16 : decode J_279.2.2.1 16 = .ok (.ifCond .ne 33, 3) := dzq_154 (by decide +kernel)
theorem D_279_19 : decode J_279.2.2.1 19 = .ok (.aload_n 0, 1) := dzq_42 (by decide +kernel)
theorem D_279_20 : decode J_279.2.2.1 20 = .ok (.getfield 411, 3) := dzq_180 (by decide +kernel)
theorem D_279_23 : decode J_279.2.2.1 23 = .ok (.ifCond .le 26, 3) := dzq_158 (by decide +kernel)
theorem D_279_26 : decode J_279.2.2.1 26 = .ok (.aload_n 0, 1) := dzq_42 (by decide +kernel)
theorem D_279_27 : decode J_279.2.2.1 27 = .ok (.bipush 125, 2) := dzq_16 (by decide +kernel)
theorem D_279_29 : decode J_279.2.2.1 29 = .ok (.invokevirtual 343, 3) := dzq_182 (by decide +kernel)
theorem D_279_32 : decode J_279.2.2.1 32 = .ok (.ifCond .eq 10, 3) := dzq_153 (by decide +kernel)
theorem D_279_35 : decode J_279.2.2.1 35 = .ok (.aload_n 0, 1) := dzq_42 (by decide +kernel)
theorem D_279_36 : decode J_279.2.2.1 36 = .ok (.invokevirtual 418, 3) := dzq_182 (by decide +kernel)
theorem D_279_39 : decode J_279.2.2.1 39 = .ok (.goto (-27), 3) := dzq_167 (by decide +kernel)
theorem D_279_42 : decode J_279.2.2.1 42 = .ok (.aload_n 0, 1) := dzq_42 (by decide +kernel)
theorem D_279_43 : decode J_279.2.2.1 43 = .ok (.invokevirtual 421, 3) := dzq_182 (by decide +kernel)
theorem D_279_46 : decode J_279.2.2.1 46 = .ok (.goto (-34), 3) := dzq_167 (by decide +kernel)
theorem D_279_49 : decode J_279.2.2.1 49 = .ok (.aload_n 0, 1) := dzq_42 (by decide +kernel)
theorem D_279_50 : decode J_279.2.2.1 50 = .ok (.getfield 333, 3) := dzq_180 (by decide +kernel)
theorem D_279_53 : decode J_279.2.2.1 53 = .ok (.ifCond .ne 12, 3) := dzq_154 (by decide +kernel)
theorem D_279_56 : decode J_279.2.2.1 56 = .ok (.aload_n 0, 1) := dzq_42 (by decide +kernel)
theorem D_279_57 : decode J_279.2.2.1 57 = .ok (.bipush 28, 2) := dzq_16 (by decide +kernel)
theorem D_279_59 : decode J_279.2.2.1 59 = .ok (.iconst (-1), 1) := dzq_2 (by decide +kernel)
theorem D_279_60 : decode J_279.2.2.1 60 = .ok (.iconst 0, 1) := dzq_3 (by decide +kernel)
theorem D_279_61 : decode J_279.2.2.1 61 = .ok (.iconst 0, 1) := dzq_3 (by decide +kernel)
theorem D_279_62 : decode J_279.2.2.1 62 = .ok (.invokevirtual 359, 3) := dzq_182 (by decide +kernel)
theorem D_279_65 : decode J_279.2.2.1 65 = .ok (.return_, 1) := dzq_177 (by decide +kernel)
def P_279_49 (X : mjX) (d C S kc ks : Nat) (k : Nat → mjH → mjU) : Prop := ∀ (l0 : Nat) (hp : mjH) (q : Option Value × mjH), k l0 hp = some q → mjG X d C S J_279 (mjEq q) 49 [some (.ref l0)] [] hp kc ks
def P_279_12 (X : mjX) (d C S kc ks : Nat) (k : Nat → mjH → mjU) : Prop := ∀ (l0 : Nat) (hp : mjH) (q : Option Value × mjH), k l0 hp = some q → mjG X d C S J_279 (mjEq q) 12 [some (.ref l0)] [] hp kc ks
def P_279_0 (X : mjX) (d C S kc ks : Nat) (k : Nat → mjH → mjU) : Prop := ∀ (l0 : Nat) (hp : mjH) (q : Option Value × mjH), k l0 hp = some q → mjG X d C S J_279 (mjEq q) 0 [some (.ref l0)] [] hp kc ks
noncomputable def b_279_49 (R : mjR) (l0 : Nat) (hp : mjH) : mjU := gI hp l0 12 61 (fun v1 => (if v1 = 0 then rV hp l0 12 (bN (R 281 [.ref l0, .int (28 : Int32), .int (-1 : Int32), .int (0 : Int32), .int (0 : Int32)] hp) (fun  hp2 => some (none, hp2))) else some (none, hp)))
theorem t_279_49 {X : mjX} {d C S kc ks : Nat} {R : mjR} (hR : mjC R d) (h1 : kc ≤ C) (h2 : ks ≤ S) : P_279_49 X (d + 1) C S kc ks (b_279_49 R) := by
  intro l0 hp q h
  unfold b_279_49 at h
  refine mjr_aload_n (x := l0) D_279_49 rfl ?_
  refine mjq_gI D_279_50 fr_12_333 h (fun v1 h => ?_)
  refine mjq_if_ne (tgt := 65) D_279_53 rfl h (fun h => ?_) (fun h => ?_)
  · exact mjq_nret D_279_65 rfl h1 h2 h
  · refine mjr_aload_n (x := l0) D_279_56 rfl ?_
    refine mjq_bi (v := (28 : Int32)) D_279_57 rfl ?_
    refine mjq_ic (v := (-1 : Int32)) D_279_59 rfl ?_
    refine mjq_ic (v := (0 : Int32)) D_279_60 rfl ?_
    refine mjq_ic (v := (0 : Int32)) D_279_61 rfl ?_
    refine mjq_vN (As := [.int (28 : Int32), .int (-1 : Int32), .int (0 : Int32), .int (0 : Int32)]) (rest := []) D_279_62 mr_12_359 V_281 rfl rfl rfl hR (Nat.le_refl _) h1 h2 h (fun  hp2 h => ?_)
    exact mjq_nret D_279_65 rfl h1 h2 h
noncomputable def b_279_12 (R : mjR) (k12 : Nat → mjH → mjU) (l0 : Nat) (hp : mjH) : mjU := gI hp l0 12 61 (fun v1 => (if v1 = 0 then gI hp l0 12 71 (fun v2 => (if v2 ≤ 0 then b_279_49 R l0 hp else rV hp l0 12 (bI (R 271 [.ref l0, .int (125 : Int32)] hp) (fun v3 hp4 => (if v3 = 0 then rV hp4 l0 12 (bN (R 284 [.ref l0] hp4) (fun  hp5 => k12 l0 hp5)) else rV hp4 l0 12 (bN (R 282 [.ref l0] hp4) (fun  hp6 => k12 l0 hp6))))))) else b_279_49 R l0 hp))
theorem t_279_12 {X : mjX} {d C S kc ks : Nat} {R : mjR} (hR : mjC R d) (h1 : kc ≤ C) (h2 : ks ≤ S) {k12 : Nat → mjH → mjU} (hk12 : P_279_12 X (d + 1) C S kc ks k12) : P_279_12 X (d + 1) C S kc ks (b_279_12 R k12) := by
  intro l0 hp q h
  unfold b_279_12 at h
  refine mjr_aload_n (x := l0) D_279_12 rfl ?_
  refine mjq_gI D_279_13 fr_12_333 h (fun v1 h => ?_)
  refine mjq_if_ne (tgt := 49) D_279_16 rfl h (fun h => ?_) (fun h => ?_)
  · exact (t_279_49 hR h1 h2) _ _ _ h
  · refine mjr_aload_n (x := l0) D_279_19 rfl ?_
    refine mjq_gI D_279_20 fr_12_411 h (fun v2 h => ?_)
    refine mjq_if_le (tgt := 49) D_279_23 rfl h (fun h => ?_) (fun h => ?_)
    · exact (t_279_49 hR h1 h2) _ _ _ h
    · refine mjr_aload_n (x := l0) D_279_26 rfl ?_
      refine mjq_bi (v := (125 : Int32)) D_279_27 rfl ?_
      refine mjq_vI (As := [.int (125 : Int32)]) (rest := []) D_279_29 mr_12_343 V_271 rfl rfl rfl hR (Nat.le_refl _) h1 h2 h (fun v3 hp4 h => ?_)
      refine mjq_if_eq (tgt := 42) D_279_32 rfl h (fun h => ?_) (fun h => ?_)
      · refine mjr_aload_n (x := l0) D_279_42 rfl ?_
        refine mjq_vN (As := []) (rest := []) D_279_43 mr_12_421 V_284 rfl rfl rfl hR (Nat.le_refl _) h1 h2 h (fun  hp5 h => ?_)
        refine mjr_goto (tgt := 12) D_279_46 rfl ?_
        exact hk12 _ _ _ h
      · refine mjr_aload_n (x := l0) D_279_35 rfl ?_
        refine mjq_vN (As := []) (rest := []) D_279_36 mr_12_418 V_282 rfl rfl rfl hR (Nat.le_refl _) h1 h2 h (fun  hp6 h => ?_)
        refine mjr_goto (tgt := 12) D_279_39 rfl ?_
        exact hk12 _ _ _ h
noncomputable def L_279_12 (R : mjR) (n : Nat) : Nat → mjH → mjU := Nat.rec (motive := fun _ => Nat → mjH → mjU) (fun _ _ => none) (fun _ self => b_279_12 R self) n
theorem T_279_12 {X : mjX} {d C S kc ks : Nat} {R : mjR} (hR : mjC R d) (h1 : kc ≤ C) (h2 : ks ≤ S) (n : Nat) : P_279_12 X (d + 1) C S kc ks (L_279_12 R n) := by
  induction n with
  | zero => intro _ _ _ h; exact mj_no h
  | succ n ih => exact t_279_12 hR h1 h2 ih
noncomputable def b_279_0 (R : mjR) (l0 : Nat) (hp : mjH) : mjU := pI hp l0 12 71 (0 : Int32) (fun hp1 => rV hp1 l0 12 (bN (R 280 [.ref l0, .int (0 : Int32), .int (-1 : Int32), .int (-1 : Int32)] hp1) (fun  hp2 => L_279_12 R mjN l0 hp2)))
theorem t_279_0 {X : mjX} {d C S kc ks : Nat} {R : mjR} (hR : mjC R d) (h1 : kc ≤ C) (h2 : ks ≤ S) : P_279_0 X (d + 1) C S kc ks (b_279_0 R) := by
  intro l0 hp q h
  unfold b_279_0 at h
  refine mjr_aload_n (x := l0) D_279_0 rfl ?_
  refine mjq_ic (v := (0 : Int32)) D_279_1 rfl ?_
  refine mjq_pI D_279_2 fr_12_411 rfl rfl h (fun hp1 h => ?_)
  refine mjr_aload_n (x := l0) D_279_5 rfl ?_
  refine mjq_ic (v := (0 : Int32)) D_279_6 rfl ?_
  refine mjq_ic (v := (-1 : Int32)) D_279_7 rfl ?_
  refine mjq_ic (v := (-1 : Int32)) D_279_8 rfl ?_
  refine mjq_vN (As := [.int (0 : Int32), .int (-1 : Int32), .int (-1 : Int32)]) (rest := []) D_279_9 mr_12_414 V_280 rfl rfl rfl hR (Nat.le_refl _) h1 h2 h (fun  hp2 h => ?_)
  exact (T_279_12 hR h1 h2 mjN) _ _ _ h
noncomputable def f_279 (R : mjR) (a0 : Nat) (hp : mjH) : mjU := b_279_0 R a0 hp
theorem c_279 {R : mjR} {d : Nat} (hR : mjC R d) {a0 : Nat} {hp : mjH} {q : Option Value × mjH} (h : f_279 R a0 hp = some q) : mjM (d + 1) 0 0 279 [.ref a0] hp (mjEq q) :=
  mjM_of Ja_279 (Nat.le_of_ble_eq_true rfl) (mjG.fg (lo' := [some (.ref a0)]) (And.intro rfl True.intro) ((t_279_0 hR (Nat.le_refl 0) (Nat.le_refl 0)) a0 hp q h))
def J_280 : mjI := (⟨"OwnerHeapModel", "beginBlock", "(III)V"⟩, 12, prog_14_method_25_code, 4, none, 3, false)
theorem Ja_280 : mjMt 280 = some J_280 := by rfl
theorem D_280_0 : decode J_280.2.2.1 0 = .ok (.aload_n 0, 1) := dzq_42 (by decide +kernel)
theorem D_280_1 : decode J_280.2.2.1 1 = .ok (.bipush 123, 2) := dzq_16 (by decide +kernel)
theorem D_280_3 : decode J_280.2.2.1 3 = .ok (.invokevirtual 391, 3) := dzq_182 (by decide +kernel)
theorem D_280_6 : decode J_280.2.2.1 6 = .ok (.aload_n 0, 1) := dzq_42 (by decide +kernel)
theorem D_280_7 : decode J_280.2.2.1 7 = .ok (.getfield 333, 3) := dzq_180 (by decide +kernel)
theorem D_280_10 : decode J_280.2.2.1 10 = .ok (.ifCond .le 4, 3) := dzq_158 (by decide +kernel)
theorem D_280_13 : decode J_280.2.2.1 13 = .ok (.return_, 1) := dzq_177 (by decide +kernel)
theorem D_280_14 : decode J_280.2.2.1 14 = .ok (.aload_n 0, 1) := dzq_42 (by decide +kernel)
theorem D_280_15 : decode J_280.2.2.1 15 = .ok (.bipush 26, 2) := dzq_16 (by decide +kernel)
theorem D_280_17 : decode J_280.2.2.1 17 = .ok (.aload_n 0, 1) := dzq_42 (by decide +kernel)
theorem D_280_18 : decode J_280.2.2.1 18 = .ok (.getfield 310, 3) := dzq_180 (by decide +kernel)
theorem D_280_21 : decode J_280.2.2.1 21 = .ok (.iconst 0, 1) := dzq_3 (by decide +kernel)
theorem D_280_22 : decode J_280.2.2.1 22 = .ok (.iconst 0, 1) := dzq_3 (by decide +kernel)
theorem D_280_23 : decode J_280.2.2.1 23 = .ok (.invokevirtual 359, 3) := dzq_182 (by decide +kernel)
theorem D_280_26 : decode J_280.2.2.1 26 = .ok (.aload_n 0, 1) := dzq_42 (by decide +kernel)
theorem D_280_27 : decode J_280.2.2.1 27 = .ok (.getfield 170, 3) := dzq_180 (by decide +kernel)
theorem D_280_30 : decode J_280.2.2.1 30 = .ok (.aload_n 0, 1) := dzq_42 (by decide +kernel)
theorem D_280_31 : decode J_280.2.2.1 31 = .ok (.getfield 411, 3) := dzq_180 (by decide +kernel)
theorem D_280_34 : decode J_280.2.2.1 34 = .ok (.iload_n 1, 1) := dzq_27 (by decide +kernel)
theorem D_280_35 : decode J_280.2.2.1 35 = .ok (.iastore, 1) := dzq_79 (by decide +kernel)
theorem D_280_36 : decode J_280.2.2.1 36 = .ok (.aload_n 0, 1) := dzq_42 (by decide +kernel)
theorem D_280_37 : decode J_280.2.2.1 37 = .ok (.getfield 173, 3) := dzq_180 (by decide +kernel)
theorem D_280_40 : decode J_280.2.2.1 40 = .ok (.aload_n 0, 1) := dzq_42 (by decide +kernel)
theorem D_280_41 : decode J_280.2.2.1 41 = .ok (.getfield 411, 3) := dzq_180 (by decide +kernel)
theorem D_280_44 : decode J_280.2.2.1 44 = .ok (.iload_n 2, 1) := dzq_28 (by decide +kernel)
theorem D_280_45 : decode J_280.2.2.1 45 = .ok (.iastore, 1) := dzq_79 (by decide +kernel)
theorem D_280_46 : decode J_280.2.2.1 46 = .ok (.aload_n 0, 1) := dzq_42 (by decide +kernel)
theorem D_280_47 : decode J_280.2.2.1 47 = .ok (.getfield 176, 3) := dzq_180 (by decide +kernel)
theorem D_280_50 : decode J_280.2.2.1 50 = .ok (.aload_n 0, 1) := dzq_42 (by decide +kernel)
theorem D_280_51 : decode J_280.2.2.1 51 = .ok (.getfield 411, 3) := dzq_180 (by decide +kernel)
theorem D_280_54 : decode J_280.2.2.1 54 = .ok (.iload_n 3, 1) := dzq_29 (by decide +kernel)
theorem D_280_55 : decode J_280.2.2.1 55 = .ok (.iastore, 1) := dzq_79 (by decide +kernel)
theorem D_280_56 : decode J_280.2.2.1 56 = .ok (.aload_n 0, 1) := dzq_42 (by decide +kernel)
theorem D_280_57 : decode J_280.2.2.1 57 = .ok (.dup, 1) := dzq_89 (by decide +kernel)
theorem D_280_58 : decode J_280.2.2.1 58 = .ok (.getfield 411, 3) := dzq_180 (by decide +kernel)
theorem D_280_61 : decode J_280.2.2.1 61 = .ok (.iconst 1, 1) := dzq_4 (by decide +kernel)
theorem D_280_62 : decode J_280.2.2.1 62 = .ok (.iadd, 1) := dzq_96 (by decide +kernel)
theorem D_280_63 : decode J_280.2.2.1 63 = .ok (.putfield 411, 3) := dzq_181 (by decide +kernel)
theorem D_280_66 : decode J_280.2.2.1 66 = .ok (.return_, 1) := dzq_177 (by decide +kernel)
def P_280_0 (X : mjX) (d C S kc ks : Nat) (k : Nat → Int32 → Int32 → Int32 → mjH → mjU) : Prop := ∀ (l0 : Nat) (l1 : Int32) (l2 : Int32) (l3 : Int32) (hp : mjH) (q : Option Value × mjH), k l0 l1 l2 l3 hp = some q → mjG X d C S J_280 (mjEq q) 0 [some (.ref l0), some (.int l1), some (.int l2), some (.int l3)] [] hp kc ks
noncomputable def b_280_0 (R : mjR) (l0 : Nat) (l1 : Int32) (l2 : Int32) (l3 : Int32) (hp : mjH) : mjU := rV hp l0 12 (bN (R 274 [.ref l0, .int (123 : Int32)] hp) (fun  hp1 => gI hp1 l0 12 61 (fun v2 => (if v2 ≤ 0 then gI hp1 l0 12 4 (fun v3 => rV hp1 l0 12 (bN (R 281 [.ref l0, .int (26 : Int32), .int v3, .int (0 : Int32), .int (0 : Int32)] hp1) (fun  hp4 => gR hp4 l0 12 68 (fun v5 => gI hp4 l0 12 71 (fun v6 => sI hp4 v5 v6 l1 (fun hp7 => gR hp7 l0 12 69 (fun v8 => gI hp7 l0 12 71 (fun v9 => sI hp7 v8 v9 l2 (fun hp10 => gR hp10 l0 12 70 (fun v11 => gI hp10 l0 12 71 (fun v12 => sI hp10 v11 v12 l3 (fun hp13 => gI hp13 l0 12 71 (fun v14 => pI hp13 l0 12 71 (v14 + (1 : Int32)) (fun hp15 => some (none, hp15))))))))))))))) else some (none, hp1)))))
theorem t_280_0 {X : mjX} {d C S kc ks : Nat} {R : mjR} (hR : mjC R d) (h1 : kc ≤ C) (h2 : ks ≤ S) : P_280_0 X (d + 1) C S kc ks (b_280_0 R) := by
  intro l0 l1 l2 l3 hp q h
  unfold b_280_0 at h
  refine mjr_aload_n (x := l0) D_280_0 rfl ?_
  refine mjq_bi (v := (123 : Int32)) D_280_1 rfl ?_
  refine mjq_vN (As := [.int (123 : Int32)]) (rest := []) D_280_3 mr_12_391 V_274 rfl rfl rfl hR (Nat.le_refl _) h1 h2 h (fun  hp1 h => ?_)
  refine mjr_aload_n (x := l0) D_280_6 rfl ?_
  refine mjq_gI D_280_7 fr_12_333 h (fun v2 h => ?_)
  refine mjq_if_le (tgt := 14) D_280_10 rfl h (fun h => ?_) (fun h => ?_)
  · refine mjr_aload_n (x := l0) D_280_14 rfl ?_
    refine mjq_bi (v := (26 : Int32)) D_280_15 rfl ?_
    refine mjr_aload_n (x := l0) D_280_17 rfl ?_
    refine mjq_gI D_280_18 fr_12_310 h (fun v3 h => ?_)
    refine mjq_ic (v := (0 : Int32)) D_280_21 rfl ?_
    refine mjq_ic (v := (0 : Int32)) D_280_22 rfl ?_
    refine mjq_vN (As := [.int (26 : Int32), .int v3, .int (0 : Int32), .int (0 : Int32)]) (rest := []) D_280_23 mr_12_359 V_281 rfl rfl rfl hR (Nat.le_refl _) h1 h2 h (fun  hp4 h => ?_)
    refine mjr_aload_n (x := l0) D_280_26 rfl ?_
    refine mjq_gR D_280_27 fr_12_170 h (fun v5 h => ?_)
    refine mjr_aload_n (x := l0) D_280_30 rfl ?_
    refine mjq_gI D_280_31 fr_12_411 h (fun v6 h => ?_)
    refine mjr_iload_n (x := l1) D_280_34 rfl ?_
    refine mjq_sI D_280_35 h (fun hp7 h => ?_)
    refine mjr_aload_n (x := l0) D_280_36 rfl ?_
    refine mjq_gR D_280_37 fr_12_173 h (fun v8 h => ?_)
    refine mjr_aload_n (x := l0) D_280_40 rfl ?_
    refine mjq_gI D_280_41 fr_12_411 h (fun v9 h => ?_)
    refine mjr_iload_n (x := l2) D_280_44 rfl ?_
    refine mjq_sI D_280_45 h (fun hp10 h => ?_)
    refine mjr_aload_n (x := l0) D_280_46 rfl ?_
    refine mjq_gR D_280_47 fr_12_176 h (fun v11 h => ?_)
    refine mjr_aload_n (x := l0) D_280_50 rfl ?_
    refine mjq_gI D_280_51 fr_12_411 h (fun v12 h => ?_)
    refine mjr_iload_n (x := l3) D_280_54 rfl ?_
    refine mjq_sI D_280_55 h (fun hp13 h => ?_)
    refine mjr_aload_n (x := l0) D_280_56 rfl ?_
    refine mjr_dup D_280_57 rfl ?_
    refine mjq_gI D_280_58 fr_12_411 h (fun v14 h => ?_)
    refine mjq_ic (v := (1 : Int32)) D_280_61 rfl ?_
    refine mjr_iadd D_280_62 ?_
    refine mjq_pI D_280_63 fr_12_411 rfl rfl h (fun hp15 h => ?_)
    exact mjq_nret D_280_66 rfl h1 h2 h
  · exact mjq_nret D_280_13 rfl h1 h2 h
noncomputable def f_280 (R : mjR) (a0 : Nat) (a1 : Int32) (a2 : Int32) (a3 : Int32) (hp : mjH) : mjU := b_280_0 R a0 a1 a2 a3 hp
theorem c_280 {R : mjR} {d : Nat} (hR : mjC R d) {a0 : Nat} {a1 : Int32} {a2 : Int32} {a3 : Int32} {hp : mjH} {q : Option Value × mjH} (h : f_280 R a0 a1 a2 a3 hp = some q) : mjM (d + 1) 0 0 280 [.ref a0, .int a1, .int a2, .int a3] hp (mjEq q) :=
  mjM_of Ja_280 (Nat.le_of_ble_eq_true rfl) (mjG.fg (lo' := [some (.ref a0), some (.int a1), some (.int a2), some (.int a3)]) (And.intro rfl (And.intro rfl (And.intro rfl (And.intro rfl True.intro)))) ((t_280_0 hR (Nat.le_refl 0) (Nat.le_refl 0)) a0 a1 a2 a3 hp q h))
def J_281 : mjI := (⟨"OwnerHeapModel", "order", "(IIII)V"⟩, 12, prog_14_method_16_code, 6, none, 4, false)
theorem Ja_281 : mjMt 281 = some J_281 := by rfl
theorem D_281_0 : decode J_281.2.2.1 0 = .ok (.sipush 5000, 3) := dzq_17 (by decide +kernel)
theorem D_281_3 : decode J_281.2.2.1 3 = .ok (.aload_n 0, 1) := dzq_42 (by decide +kernel)
theorem D_281_4 : decode J_281.2.2.1 4 = .ok (.getfield 356, 3) := dzq_180 (by decide +kernel)
theorem D_281_7 : decode J_281.2.2.1 7 = .ok (.imul, 1) := dzq_104 (by decide +kernel)
theorem D_281_8 : decode J_281.2.2.1 8 = .ok (.aload_n 0, 1) := dzq_42 (by decide +kernel)
theorem D_281_9 : decode J_281.2.2.1 9 = .ok (.getfield 85, 3) := dzq_180 (by decide +kernel)
theorem D_281_12 : decode J_281.2.2.1 12 = .ok (.aload_n 0, 1) := dzq_42 (by decide +kernel)
theorem D_281_13 : decode J_281.2.2.1 13 = .ok (.getfield 356, 3) := dzq_180 (by decide +kernel)
theorem D_281_16 : decode J_281.2.2.1 16 = .ok (.iaload, 1) := dzq_46 (by decide +kernel)
theorem D_281_17 : decode J_281.2.2.1 17 = .ok (.iadd, 1) := dzq_96 (by decide +kernel)
theorem D_281_18 : decode J_281.2.2.1 18 = .ok (.istore 5, 2) := dzq_54 (by decide +kernel)
theorem D_281_20 : decode J_281.2.2.1 20 = .ok (.aload_n 0, 1) := dzq_42 (by decide +kernel)
theorem D_281_21 : decode J_281.2.2.1 21 = .ok (.getfield 148, 3) := dzq_180 (by decide +kernel)
theorem D_281_24 : decode J_281.2.2.1 24 = .ok (.iload 5, 2) := dzq_21 (by decide +kernel)
theorem D_281_26 : decode J_281.2.2.1 26 = .ok (.iload_n 1, 1) := dzq_27 (by decide +kernel)
theorem D_281_27 : decode J_281.2.2.1 27 = .ok (.iastore, 1) := dzq_79 (by decide +kernel)
theorem D_281_28 : decode J_281.2.2.1 28 = .ok (.aload_n 0, 1) := dzq_42 (by decide +kernel)
theorem D_281_29 : decode J_281.2.2.1 29 = .ok (.getfield 151, 3) := dzq_180 (by decide +kernel)
theorem D_281_32 : decode J_281.2.2.1 32 = .ok (.iload 5, 2) := dzq_21 (by decide +kernel)
theorem D_281_34 : decode J_281.2.2.1 34 = .ok (.iload_n 2, 1) := dzq_28 (by decide +kernel)
theorem D_281_35 : decode J_281.2.2.1 35 = .ok (.iastore, 1) := dzq_79 (by decide +kernel)
theorem D_281_36 : decode J_281.2.2.1 36 = .ok (.aload_n 0, 1) := dzq_42 (by decide +kernel)
theorem D_281_37 : decode J_281.2.2.1 37 = .ok (.getfield 154, 3) := dzq_180 (by decide +kernel)
theorem D_281_40 : decode J_281.2.2.1 40 = .ok (.iload 5, 2) := dzq_21 (by decide +kernel)
theorem D_281_42 : decode J_281.2.2.1 42 = .ok (.iload_n 3, 1) := dzq_29 (by decide +kernel)
theorem D_281_43 : decode J_281.2.2.1 43 = .ok (.iastore, 1) := dzq_79 (by decide +kernel)
theorem D_281_44 : decode J_281.2.2.1 44 = .ok (.aload_n 0, 1) := dzq_42 (by decide +kernel)
theorem D_281_45 : decode J_281.2.2.1 45 = .ok (.getfield 157, 3) := dzq_180 (by decide +kernel)
theorem D_281_48 : decode J_281.2.2.1 48 = .ok (.iload 5, 2) := dzq_21 (by decide +kernel)
theorem D_281_50 : decode J_281.2.2.1 50 = .ok (.iload 4, 2) := dzq_21 (by decide +kernel)
theorem D_281_52 : decode J_281.2.2.1 52 = .ok (.iastore, 1) := dzq_79 (by decide +kernel)
theorem D_281_53 : decode J_281.2.2.1 53 = .ok (.aload_n 0, 1) := dzq_42 (by decide +kernel)
theorem D_281_54 : decode J_281.2.2.1 54 = .ok (.getfield 160, 3) := dzq_180 (by decide +kernel)
theorem D_281_57 : decode J_281.2.2.1 57 = .ok (.iload 5, 2) := dzq_21 (by decide +kernel)
theorem D_281_59 : decode J_281.2.2.1 59 = .ok (.lconst 0, 1) := by decide +kernel
theorem D_281_60 : decode J_281.2.2.1 60 = .ok (.lastore, 1) := by decide +kernel
theorem D_281_61 : decode J_281.2.2.1 61 = .ok (.aload_n 0, 1) := dzq_42 (by decide +kernel)
theorem D_281_62 : decode J_281.2.2.1 62 = .ok (.getfield 85, 3) := dzq_180 (by decide +kernel)
theorem D_281_65 : decode J_281.2.2.1 65 = .ok (.aload_n 0, 1) := dzq_42 (by decide +kernel)
theorem D_281_66 : decode J_281.2.2.1 66 = .ok (.getfield 356, 3) := dzq_180 (by decide +kernel)
theorem D_281_69 : decode J_281.2.2.1 69 = .ok (.dup2, 1) := by decide +kernel
theorem D_281_70 : decode J_281.2.2.1 70 = .ok (.iaload, 1) := dzq_46 (by decide +kernel)
theorem D_281_71 : decode J_281.2.2.1 71 = .ok (.iconst 1, 1) := dzq_4 (by decide +kernel)
theorem D_281_72 : decode J_281.2.2.1 72 = .ok (.iadd, 1) := dzq_96 (by decide +kernel)
theorem D_281_73 : decode J_281.2.2.1 73 = .ok (.iastore, 1) := dzq_79 (by decide +kernel)
theorem D_281_74 : decode J_281.2.2.1 74 = .ok (.return_, 1) := dzq_177 (by decide +kernel)
def P_281_0 (X : mjX) (d C S kc ks : Nat) (k : Nat → Int32 → Int32 → Int32 → Int32 → mjH → mjU) : Prop := ∀ (l0 : Nat) (l1 : Int32) (l2 : Int32) (l3 : Int32) (l4 : Int32) (hp : mjH) (q : Option Value × mjH), k l0 l1 l2 l3 l4 hp = some q → mjG X d C S J_281 (mjEq q) 0 [some (.ref l0), some (.int l1), some (.int l2), some (.int l3), some (.int l4), none] [] hp kc ks
noncomputable def b_281_0 (R : mjR) (l0 : Nat) (l1 : Int32) (l2 : Int32) (l3 : Int32) (l4 : Int32) (hp : mjH) : mjU := gI hp l0 12 63 (fun v1 => gR hp l0 12 33 (fun v2 => gI hp l0 12 63 (fun v3 => aI hp v2 v3 (fun v4 => gR hp l0 12 54 (fun v5 => sI hp v5 (((5000 : Int32) * v1) + v4) l1 (fun hp6 => gR hp6 l0 12 55 (fun v7 => sI hp6 v7 (((5000 : Int32) * v1) + v4) l2 (fun hp8 => gR hp8 l0 12 56 (fun v9 => sI hp8 v9 (((5000 : Int32) * v1) + v4) l3 (fun hp10 => gR hp10 l0 12 57 (fun v11 => sI hp10 v11 (((5000 : Int32) * v1) + v4) l4 (fun hp12 => gR hp12 l0 12 58 (fun v13 => sL hp12 v13 (((5000 : Int32) * v1) + v4) (0 : Int64) (fun hp14 => gR hp14 l0 12 33 (fun v15 => gI hp14 l0 12 63 (fun v16 => aI hp14 v15 v16 (fun v17 => sI hp14 v15 v16 (v17 + (1 : Int32)) (fun hp18 => some (none, hp18)))))))))))))))))))
theorem t_281_0 {X : mjX} {d C S kc ks : Nat} {R : mjR} (hR : mjC R d) (h1 : kc ≤ C) (h2 : ks ≤ S) : P_281_0 X (d + 1) C S kc ks (b_281_0 R) := by
  intro l0 l1 l2 l3 l4 hp q h
  unfold b_281_0 at h
  refine mjq_si (v := (5000 : Int32)) D_281_0 rfl ?_
  refine mjr_aload_n (x := l0) D_281_3 rfl ?_
  refine mjq_gI D_281_4 fr_12_356 h (fun v1 h => ?_)
  refine mjr_imul D_281_7 ?_
  refine mjr_aload_n (x := l0) D_281_8 rfl ?_
  refine mjq_gR D_281_9 fr_12_85 h (fun v2 h => ?_)
  refine mjr_aload_n (x := l0) D_281_12 rfl ?_
  refine mjq_gI D_281_13 fr_12_356 h (fun v3 h => ?_)
  refine mjq_aI D_281_16 h (fun v4 h => ?_)
  refine mjr_iadd D_281_17 ?_
  refine mjq_istore (lo' := [some (.ref l0), some (.int l1), some (.int l2), some (.int l3), some (.int l4), some (.int (((5000 : Int32) * v1) + v4))]) D_281_18 (Nat.le_of_ble_eq_true rfl) rfl ?_
  refine mjr_aload_n (x := l0) D_281_20 rfl ?_
  refine mjq_gR D_281_21 fr_12_148 h (fun v5 h => ?_)
  refine mjr_iload (x := (((5000 : Int32) * v1) + v4)) D_281_24 rfl ?_
  refine mjr_iload_n (x := l1) D_281_26 rfl ?_
  refine mjq_sI D_281_27 h (fun hp6 h => ?_)
  refine mjr_aload_n (x := l0) D_281_28 rfl ?_
  refine mjq_gR D_281_29 fr_12_151 h (fun v7 h => ?_)
  refine mjr_iload (x := (((5000 : Int32) * v1) + v4)) D_281_32 rfl ?_
  refine mjr_iload_n (x := l2) D_281_34 rfl ?_
  refine mjq_sI D_281_35 h (fun hp8 h => ?_)
  refine mjr_aload_n (x := l0) D_281_36 rfl ?_
  refine mjq_gR D_281_37 fr_12_154 h (fun v9 h => ?_)
  refine mjr_iload (x := (((5000 : Int32) * v1) + v4)) D_281_40 rfl ?_
  refine mjr_iload_n (x := l3) D_281_42 rfl ?_
  refine mjq_sI D_281_43 h (fun hp10 h => ?_)
  refine mjr_aload_n (x := l0) D_281_44 rfl ?_
  refine mjq_gR D_281_45 fr_12_157 h (fun v11 h => ?_)
  refine mjr_iload (x := (((5000 : Int32) * v1) + v4)) D_281_48 rfl ?_
  refine mjr_iload (x := l4) D_281_50 rfl ?_
  refine mjq_sI D_281_52 h (fun hp12 h => ?_)
  refine mjr_aload_n (x := l0) D_281_53 rfl ?_
  refine mjq_gR D_281_54 fr_12_160 h (fun v13 h => ?_)
  refine mjr_iload (x := (((5000 : Int32) * v1) + v4)) D_281_57 rfl ?_
  refine mjq_lc (v := (0 : Int64)) D_281_59 rfl ?_
  refine mjq_sL D_281_60 h (fun hp14 h => ?_)
  refine mjr_aload_n (x := l0) D_281_61 rfl ?_
  refine mjq_gR D_281_62 fr_12_85 h (fun v15 h => ?_)
  refine mjr_aload_n (x := l0) D_281_65 rfl ?_
  refine mjq_gI D_281_66 fr_12_356 h (fun v16 h => ?_)
  refine mjr_dup2 D_281_69 rfl rfl ?_
  refine mjq_aI D_281_70 h (fun v17 h => ?_)
  refine mjq_ic (v := (1 : Int32)) D_281_71 rfl ?_
  refine mjr_iadd D_281_72 ?_
  refine mjq_sI D_281_73 h (fun hp18 h => ?_)
  exact mjq_nret D_281_74 rfl h1 h2 h
noncomputable def f_281 (R : mjR) (a0 : Nat) (a1 : Int32) (a2 : Int32) (a3 : Int32) (a4 : Int32) (hp : mjH) : mjU := b_281_0 R a0 a1 a2 a3 a4 hp
theorem c_281 {R : mjR} {d : Nat} (hR : mjC R d) {a0 : Nat} {a1 : Int32} {a2 : Int32} {a3 : Int32} {a4 : Int32} {hp : mjH} {q : Option Value × mjH} (h : f_281 R a0 a1 a2 a3 a4 hp = some q) : mjM (d + 1) 0 0 281 [.ref a0, .int a1, .int a2, .int a3, .int a4] hp (mjEq q) :=
  mjM_of Ja_281 (Nat.le_of_ble_eq_true rfl) (mjG.fg (lo' := [some (.ref a0), some (.int a1), some (.int a2), some (.int a3), some (.int a4), none]) (And.intro rfl (And.intro rfl (And.intro rfl (And.intro rfl (And.intro rfl True.intro))))) ((t_281_0 hR (Nat.le_refl 0) (Nat.le_refl 0)) a0 a1 a2 a3 a4 hp q h))
