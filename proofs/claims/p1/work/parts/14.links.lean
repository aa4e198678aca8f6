/-! ===== links, by class number and pool number ===== -/
theorem fr_3_9 : mjFr 3 9 = some (3, 0) := by decide +kernel
theorem fr_3_13 : mjFr 3 13 = some (3, 1) := by decide +kernel
theorem fr_3_16 : mjFr 3 16 = some (3, 2) := by decide +kernel
theorem fr_6_17 : mjFr 6 17 = some (6, 2) := by decide +kernel
theorem fr_6_21 : mjFr 6 21 = some (6, 3) := by decide +kernel
theorem fr_6_24 : mjFr 6 24 = some (6, 4) := by decide +kernel
theorem fr_6_31 : mjFr 6 31 = some (6, 6) := by decide +kernel
theorem fr_6_43 : mjFr 6 43 = some (6, 0) := by decide +kernel
theorem fr_7_11 : mjFr 7 11 = some (7, 1) := by decide +kernel
theorem fr_7_18 : mjFr 7 18 = some (7, 3) := by decide +kernel
theorem fr_7_24 : mjFr 7 24 = some (7, 5) := by decide +kernel
theorem fr_7_27 : mjFr 7 27 = some (7, 6) := by decide +kernel
theorem fr_7_30 : mjFr 7 30 = some (7, 7) := by decide +kernel
theorem fr_7_33 : mjFr 7 33 = some (7, 8) := by decide +kernel
theorem fr_7_39 : mjFr 7 39 = some (7, 10) := by decide +kernel
theorem fr_7_42 : mjFr 7 42 = some (7, 11) := by decide +kernel
theorem fr_7_45 : mjFr 7 45 = some (7, 12) := by decide +kernel
theorem fr_7_48 : mjFr 7 48 = some (7, 13) := by decide +kernel
theorem fr_7_55 : mjFr 7 55 = some (7, 14) := by decide +kernel
theorem fr_7_62 : mjFr 7 62 = some (7, 15) := by decide +kernel
theorem fr_7_66 : mjFr 7 66 = some (7, 0) := by decide +kernel
theorem fr_7_82 : mjFr 7 82 = some (0, 3) := by decide +kernel
theorem fr_8_9 : mjFr 8 9 = some (8, 0) := by decide +kernel
theorem fr_8_15 : mjFr 8 15 = some (8, 1) := by decide +kernel
theorem fr_8_19 : mjFr 8 19 = some (7, 14) := by decide +kernel
theorem fr_8_25 : mjFr 8 25 = some (8, 2) := by decide +kernel
theorem fr_8_44 : mjFr 8 44 = some (8, 8) := by decide +kernel
theorem fr_8_47 : mjFr 8 47 = some (8, 9) := by decide +kernel
theorem fr_8_75 : mjFr 8 75 = some (8, 10) := by decide +kernel
theorem fr_8_85 : mjFr 8 85 = some (6, 8) := by decide +kernel
theorem fr_9_11 : mjFr 9 11 = some (9, 0) := by decide +kernel
theorem fr_9_15 : mjFr 9 15 = some (9, 1) := by decide +kernel
theorem fr_9_19 : mjFr 9 19 = some (9, 2) := by decide +kernel
theorem fr_9_22 : mjFr 9 22 = some (9, 3) := by decide +kernel
theorem fr_9_25 : mjFr 9 25 = some (9, 4) := by decide +kernel
theorem fr_9_46 : mjFr 9 46 = some (9, 5) := by decide +kernel
theorem fr_9_50 : mjFr 9 50 = some (9, 6) := by decide +kernel
theorem fr_9_53 : mjFr 9 53 = some (9, 7) := by decide +kernel
theorem fr_9_56 : mjFr 9 56 = some (9, 8) := by decide +kernel
theorem fr_10_9 : mjFr 10 9 = some (10, 0) := by decide +kernel
theorem fr_10_21 : mjFr 10 21 = some (10, 2) := by decide +kernel
theorem fr_10_25 : mjFr 10 25 = some (10, 4) := by decide +kernel
theorem fr_10_28 : mjFr 10 28 = some (10, 6) := by decide +kernel
theorem fr_10_31 : mjFr 10 31 = some (10, 7) := by decide +kernel
theorem fr_10_34 : mjFr 10 34 = some (10, 8) := by decide +kernel
theorem fr_10_37 : mjFr 10 37 = some (10, 5) := by decide +kernel
theorem fr_10_41 : mjFr 10 41 = some (10, 3) := by decide +kernel
theorem fr_10_45 : mjFr 10 45 = some (3, 2) := by decide +kernel
theorem fr_10_96 : mjFr 10 96 = some (10, 9) := by decide +kernel
theorem fr_11_9 : mjFr 11 9 = some (11, 0) := by decide +kernel
theorem fr_11_16 : mjFr 11 16 = some (11, 6) := by decide +kernel
theorem fr_11_20 : mjFr 11 20 = some (11, 7) := by decide +kernel
theorem fr_11_26 : mjFr 11 26 = some (11, 2) := by decide +kernel
theorem fr_11_35 : mjFr 11 35 = some (11, 3) := by decide +kernel
theorem fr_11_44 : mjFr 11 44 = some (11, 4) := by decide +kernel
theorem fr_11_53 : mjFr 11 53 = some (11, 5) := by decide +kernel
theorem fr_11_57 : mjFr 11 57 = some (11, 9) := by decide +kernel
theorem fr_11_61 : mjFr 11 61 = some (11, 10) := by decide +kernel
theorem fr_11_67 : mjFr 11 67 = some (11, 11) := by decide +kernel
theorem fr_11_76 : mjFr 11 76 = some (11, 12) := by decide +kernel
theorem fr_11_83 : mjFr 11 83 = some (11, 13) := by decide +kernel
theorem fr_11_87 : mjFr 11 87 = some (11, 1) := by decide +kernel
theorem fr_11_116 : mjFr 11 116 = some (9, 7) := by decide +kernel
theorem fr_11_117 : mjFr 11 117 = some (9, 8) := by decide +kernel
theorem fr_11_121 : mjFr 11 121 = some (11, 8) := by decide +kernel
theorem fr_11_131 : mjFr 11 131 = some (7, 0) := by decide +kernel
theorem fr_11_134 : mjFr 11 134 = some (7, 1) := by decide +kernel
theorem fr_11_142 : mjFr 11 142 = some (7, 8) := by decide +kernel
theorem fr_11_145 : mjFr 11 145 = some (7, 6) := by decide +kernel
theorem fr_11_148 : mjFr 11 148 = some (7, 3) := by decide +kernel
theorem fr_11_151 : mjFr 11 151 = some (7, 2) := by decide +kernel
theorem fr_11_171 : mjFr 11 171 = some (5, 8) := by decide +kernel
theorem fr_11_177 : mjFr 11 177 = some (5, 9) := by decide +kernel
theorem fr_11_180 : mjFr 11 180 = some (5, 10) := by decide +kernel
theorem fr_11_183 : mjFr 11 183 = some (5, 11) := by decide +kernel
theorem fr_11_186 : mjFr 11 186 = some (5, 12) := by decide +kernel
theorem fr_11_189 : mjFr 11 189 = some (3, 3) := by decide +kernel
theorem fr_11_192 : mjFr 11 192 = some (3, 2) := by decide +kernel
theorem fr_11_195 : mjFr 11 195 = some (5, 1) := by decide +kernel
theorem fr_11_199 : mjFr 11 199 = some (2, 0) := by decide +kernel
theorem fr_11_202 : mjFr 11 202 = some (2, 1) := by decide +kernel
theorem fr_11_205 : mjFr 11 205 = some (5, 13) := by decide +kernel
theorem fr_11_208 : mjFr 11 208 = some (5, 14) := by decide +kernel
theorem fr_11_211 : mjFr 11 211 = some (2, 2) := by decide +kernel
theorem fr_11_216 : mjFr 11 216 = some (7, 14) := by decide +kernel
theorem fr_11_220 : mjFr 11 220 = some (6, 2) := by decide +kernel
theorem fr_11_223 : mjFr 11 223 = some (6, 5) := by decide +kernel
theorem fr_11_226 : mjFr 11 226 = some (2, 3) := by decide +kernel
theorem fr_11_229 : mjFr 11 229 = some (2, 5) := by decide +kernel
theorem fr_11_232 : mjFr 11 232 = some (6, 8) := by decide +kernel
theorem fr_12_7 : mjFr 12 7 = some (12, 0) := by decide +kernel
theorem fr_12_13 : mjFr 12 13 = some (12, 8) := by decide +kernel
theorem fr_12_17 : mjFr 12 17 = some (12, 11) := by decide +kernel
theorem fr_12_24 : mjFr 12 24 = some (12, 13) := by decide +kernel
theorem fr_12_30 : mjFr 12 30 = some (12, 15) := by decide +kernel
theorem fr_12_36 : mjFr 12 36 = some (12, 17) := by decide +kernel
theorem fr_12_45 : mjFr 12 45 = some (12, 20) := by decide +kernel
theorem fr_12_48 : mjFr 12 48 = some (12, 21) := by decide +kernel
theorem fr_12_75 : mjFr 12 75 = some (12, 30) := by decide +kernel
theorem fr_12_79 : mjFr 12 79 = some (12, 31) := by decide +kernel
theorem fr_12_82 : mjFr 12 82 = some (12, 32) := by decide +kernel
theorem fr_12_85 : mjFr 12 85 = some (12, 33) := by decide +kernel
theorem fr_12_88 : mjFr 12 88 = some (12, 34) := by decide +kernel
theorem fr_12_91 : mjFr 12 91 = some (12, 35) := by decide +kernel
theorem fr_12_109 : mjFr 12 109 = some (12, 41) := by decide +kernel
theorem fr_12_148 : mjFr 12 148 = some (12, 54) := by decide +kernel
theorem fr_12_163 : mjFr 12 163 = some (12, 59) := by decide +kernel
theorem fr_12_167 : mjFr 12 167 = some (12, 60) := by decide +kernel
theorem fr_12_227 : mjFr 12 227 = some (12, 107) := by decide +kernel
theorem fr_12_230 : mjFr 12 230 = some (12, 108) := by decide +kernel
theorem fr_12_233 : mjFr 12 233 = some (12, 109) := by decide +kernel
theorem fr_12_236 : mjFr 12 236 = some (12, 110) := by decide +kernel
theorem fr_12_239 : mjFr 12 239 = some (12, 111) := by decide +kernel
theorem fr_12_242 : mjFr 12 242 = some (12, 112) := by decide +kernel
theorem fr_12_245 : mjFr 12 245 = some (12, 113) := by decide +kernel
theorem fr_12_251 : mjFr 12 251 = some (12, 115) := by decide +kernel
theorem fr_12_257 : mjFr 12 257 = some (12, 120) := by decide +kernel
theorem fr_12_260 : mjFr 12 260 = some (12, 121) := by decide +kernel
theorem fr_12_263 : mjFr 12 263 = some (12, 122) := by decide +kernel
theorem fr_12_266 : mjFr 12 266 = some (12, 123) := by decide +kernel
theorem fr_12_269 : mjFr 12 269 = some (12, 125) := by decide +kernel
theorem fr_12_287 : mjFr 12 287 = some (12, 136) := by decide +kernel
theorem fr_12_304 : mjFr 12 304 = some (12, 2) := by decide +kernel
theorem fr_12_307 : mjFr 12 307 = some (12, 5) := by decide +kernel
theorem fr_12_310 : mjFr 12 310 = some (12, 4) := by decide +kernel
theorem fr_12_316 : mjFr 12 316 = some (12, 3) := by decide +kernel
theorem fr_12_319 : mjFr 12 319 = some (12, 6) := by decide +kernel
theorem fr_12_322 : mjFr 12 322 = some (12, 7) := by decide +kernel
theorem fr_12_333 : mjFr 12 333 = some (12, 61) := by decide +kernel
theorem fr_12_336 : mjFr 12 336 = some (12, 62) := by decide +kernel
theorem fr_12_353 : mjFr 12 353 = some (12, 64) := by decide +kernel
theorem fr_12_356 : mjFr 12 356 = some (12, 63) := by decide +kernel
theorem fr_12_369 : mjFr 12 369 = some (12, 66) := by decide +kernel
theorem fr_12_372 : mjFr 12 372 = some (12, 67) := by decide +kernel
theorem fr_12_496 : mjFr 12 496 = some (12, 129) := by decide +kernel
theorem fr_12_627 : mjFr 12 627 = some (12, 116) := by decide +kernel
theorem fr_12_633 : mjFr 12 633 = some (12, 118) := by decide +kernel
theorem fr_12_636 : mjFr 12 636 = some (12, 96) := by decide +kernel
theorem fr_12_639 : mjFr 12 639 = some (12, 98) := by decide +kernel
theorem fr_12_642 : mjFr 12 642 = some (12, 99) := by decide +kernel
theorem fr_12_645 : mjFr 12 645 = some (12, 126) := by decide +kernel
theorem fr_12_648 : mjFr 12 648 = some (12, 9) := by decide +kernel
theorem fr_12_651 : mjFr 12 651 = some (12, 119) := by decide +kernel
theorem fr_12_657 : mjFr 12 657 = some (12, 100) := by decide +kernel
theorem fr_12_684 : mjFr 12 684 = some (12, 106) := by decide +kernel
theorem fr_12_690 : mjFr 12 690 = some (12, 102) := by decide +kernel
theorem fr_12_693 : mjFr 12 693 = some (12, 101) := by decide +kernel
theorem fr_12_699 : mjFr 12 699 = some (12, 103) := by decide +kernel
theorem fr_12_702 : mjFr 12 702 = some (12, 104) := by decide +kernel
theorem fr_12_708 : mjFr 12 708 = some (12, 105) := by decide +kernel
theorem fr_12_711 : mjFr 12 711 = some (12, 97) := by decide +kernel
theorem fr_12_738 : mjFr 12 738 = some (12, 127) := by decide +kernel
theorem fr_12_744 : mjFr 12 744 = some (12, 1) := by decide +kernel
theorem fr_12_756 : mjFr 12 756 = some (12, 10) := by decide +kernel
theorem mr_7_70 : mjMr 7 70 = some 377 := by decide +kernel
theorem mr_7_76 : mjMr 7 76 = some 378 := by decide +kernel
theorem mr_7_79 : mjMr 7 79 = some 96 := by decide +kernel
theorem mr_7_97 : mjMr 7 97 = some 105 := by decide +kernel
theorem mr_8_53 : mjMr 8 53 = some 164 := by decide +kernel
theorem mr_8_57 : mjMr 8 57 = some 127 := by decide +kernel
theorem mr_8_61 : mjMr 8 61 = some 135 := by decide +kernel
theorem mr_8_65 : mjMr 8 65 = some 136 := by decide +kernel
theorem mr_8_69 : mjMr 8 69 = some 138 := by decide +kernel
theorem mr_8_72 : mjMr 8 72 = some 169 := by decide +kernel
theorem mr_8_78 : mjMr 8 78 = some 167 := by decide +kernel
theorem mr_8_82 : mjMr 8 82 = some 139 := by decide +kernel
theorem mr_8_87 : mjMr 8 87 = some 165 := by decide +kernel
theorem mr_8_90 : mjMr 8 90 = some 166 := by decide +kernel
theorem mr_8_119 : mjMr 8 119 = some 134 := by decide +kernel
theorem mr_8_176 : mjMr 8 176 = some 171 := by decide +kernel
theorem mr_8_179 : mjMr 8 179 = some 172 := by decide +kernel
theorem mr_8_182 : mjMr 8 182 = some 140 := by decide +kernel
theorem mr_9_30 : mjMr 9 30 = some 356 := by decide +kernel
theorem mr_9_36 : mjMr 9 36 = some 358 := by decide +kernel
theorem mr_9_40 : mjMr 9 40 = some 153 := by decide +kernel
theorem mr_9_59 : mjMr 9 59 = some 155 := by decide +kernel
theorem mr_9_63 : mjMr 9 63 = some 156 := by decide +kernel
theorem mr_9_66 : mjMr 9 66 = some 161 := by decide +kernel
theorem mr_9_98 : mjMr 9 98 = some 165 := by decide +kernel
theorem mr_10_48 : mjMr 10 48 = some 379 := by decide +kernel
theorem mr_10_54 : mjMr 10 54 = some 187 := by decide +kernel
theorem mr_10_58 : mjMr 10 58 = some 49 := by decide +kernel
theorem mr_10_62 : mjMr 10 62 = some 188 := by decide +kernel
theorem mr_10_87 : mjMr 10 87 = some 186 := by decide +kernel
theorem mr_10_93 : mjMr 10 93 = some 193 := by decide +kernel
theorem mr_10_99 : mjMr 10 99 = some 194 := by decide +kernel
theorem mr_10_102 : mjMr 10 102 = some 197 := by decide +kernel
theorem mr_10_113 : mjMr 10 113 = some 195 := by decide +kernel
theorem mr_11_90 : mjMr 11 90 = some 203 := by decide +kernel
theorem mr_11_94 : mjMr 11 94 = some 154 := by decide +kernel
theorem mr_11_98 : mjMr 11 98 = some 101 := by decide +kernel
theorem mr_11_101 : mjMr 11 101 = some 126 := by decide +kernel
theorem mr_11_105 : mjMr 11 105 = some 172 := by decide +kernel
theorem mr_11_109 : mjMr 11 109 = some 54 := by decide +kernel
theorem mr_11_113 : mjMr 11 113 = some 4 := by decide +kernel
theorem mr_11_118 : mjMr 11 118 = some 205 := by decide +kernel
theorem mr_11_128 : mjMr 11 128 = some 183 := by decide +kernel
theorem mr_11_138 : mjMr 11 138 = some 108 := by decide +kernel
theorem mr_11_154 : mjMr 11 154 = some 209 := by decide +kernel
theorem mr_11_158 : mjMr 11 158 = some 107 := by decide +kernel
theorem mr_11_164 : mjMr 11 164 = some 74 := by decide +kernel
theorem mr_11_168 : mjMr 11 168 = some 184 := by decide +kernel
theorem mr_11_174 : mjMr 11 174 = some 75 := by decide +kernel
theorem mr_11_235 : mjMr 11 235 = some 39 := by decide +kernel
theorem mr_11_238 : mjMr 11 238 = some 43 := by decide +kernel
theorem mr_11_242 : mjMr 11 242 = some 46 := by decide +kernel
theorem mr_11_245 : mjMr 11 245 = some 49 := by decide +kernel
theorem mr_11_248 : mjMr 11 248 = some 48 := by decide +kernel
theorem mr_11_251 : mjMr 11 251 = some 51 := by decide +kernel
theorem mr_11_254 : mjMr 11 254 = some 45 := by decide +kernel
theorem mr_11_257 : mjMr 11 257 = some 52 := by decide +kernel
theorem mr_11_261 : mjMr 11 261 = some 185 := by decide +kernel
theorem mr_11_264 : mjMr 11 264 = some 192 := by decide +kernel
theorem mr_11_267 : mjMr 11 267 = some 198 := by decide +kernel
theorem mr_11_271 : mjMr 11 271 = some 199 := by decide +kernel
theorem mr_11_274 : mjMr 11 274 = some 200 := by decide +kernel
theorem mr_12_290 : mjMr 12 290 = some 226 := by decide +kernel
theorem mr_12_294 : mjMr 12 294 = some 228 := by decide +kernel
theorem mr_12_300 : mjMr 12 300 = some 227 := by decide +kernel
theorem mr_12_313 : mjMr 12 313 = some 263 := by decide +kernel
theorem mr_12_326 : mjMr 12 326 = some 264 := by decide +kernel
theorem mr_12_329 : mjMr 12 329 = some 265 := by decide +kernel
theorem mr_12_339 : mjMr 12 339 = some 268 := by decide +kernel
theorem mr_12_347 : mjMr 12 347 = some 269 := by decide +kernel
theorem mr_12_350 : mjMr 12 350 = some 262 := by decide +kernel
theorem mr_12_363 : mjMr 12 363 = some 266 := by decide +kernel
theorem mr_12_366 : mjMr 12 366 = some 267 := by decide +kernel
theorem mr_12_375 : mjMr 12 375 = some 279 := by decide +kernel
theorem mr_12_485 : mjMr 12 485 = some 312 := by decide +kernel
theorem mr_12_538 : mjMr 12 538 = some 242 := by decide +kernel
theorem mr_12_654 : mjMr 12 654 = some 230 := by decide +kernel
theorem mr_12_660 : mjMr 12 660 = some 231 := by decide +kernel
theorem mr_12_717 : mjMr 12 717 = some 248 := by decide +kernel
theorem mr_12_720 : mjMr 12 720 = some 247 := by decide +kernel
theorem mr_12_723 : mjMr 12 723 = some 253 := by decide +kernel
theorem mr_12_726 : mjMr 12 726 = some 249 := by decide +kernel
theorem mr_12_729 : mjMr 12 729 = some 246 := by decide +kernel
theorem mr_12_732 : mjMr 12 732 = some 250 := by decide +kernel
theorem mr_12_735 : mjMr 12 735 = some 252 := by decide +kernel
theorem mr_12_741 : mjMr 12 741 = some 254 := by decide +kernel
theorem mr_12_747 : mjMr 12 747 = some 259 := by decide +kernel
theorem mr_12_750 : mjMr 12 750 = some 261 := by decide +kernel
theorem mr_12_753 : mjMr 12 753 = some 299 := by decide +kernel
theorem mr_12_759 : mjMr 12 759 = some 338 := by decide +kernel
theorem mr_12_762 : mjMr 12 762 = some 344 := by decide +kernel
theorem mr_12_765 : mjMr 12 765 = some 347 := by decide +kernel
theorem mr_17_335 : mjMr 17 335 = some 357 := by decide +kernel
theorem mr_17_492 : mjMr 17 492 = some 359 := by decide +kernel
theorem mr_17_495 : mjMr 17 495 = some 364 := by decide +kernel
theorem mr_17_498 : mjMr 17 498 = some 368 := by decide +kernel
theorem mr_17_1059 : mjMr 17 1059 = some 381 := by decide +kernel
theorem mr_18_9 : mjMr 18 9 = some 360 := by decide +kernel
theorem mr_20_13 : mjMr 20 13 = some 380 := by decide +kernel
theorem V_4 : mjVf 4 1 1 := ⟨_, rfl, rfl, by decide, by decide, rfl, rfl⟩
theorem V_39 : mjVf 39 2 2 := ⟨_, rfl, rfl, by decide, by decide, rfl, rfl⟩
theorem V_43 : mjVf 43 3 1 := ⟨_, rfl, rfl, by decide, by decide, rfl, rfl⟩
theorem V_45 : mjVf 45 3 2 := ⟨_, rfl, rfl, by decide, by decide, rfl, rfl⟩
theorem V_46 : mjVf 46 3 1 := ⟨_, rfl, rfl, by decide, by decide, rfl, rfl⟩
theorem V_48 : mjVf 48 3 1 := ⟨_, rfl, rfl, by decide, by decide, rfl, rfl⟩
theorem V_49 : mjVf 49 3 2 := ⟨_, rfl, rfl, by decide, by decide, rfl, rfl⟩
theorem V_51 : mjVf 51 3 1 := ⟨_, rfl, rfl, by decide, by decide, rfl, rfl⟩
theorem V_52 : mjVf 52 3 2 := ⟨_, rfl, rfl, by decide, by decide, rfl, rfl⟩
theorem V_54 : mjVf 54 4 2 := ⟨_, rfl, rfl, by decide, by decide, rfl, rfl⟩
theorem V_74 : mjVf 74 5 3 := ⟨_, rfl, rfl, by decide, by decide, rfl, rfl⟩
theorem V_75 : mjVf 75 5 1 := ⟨_, rfl, rfl, by decide, by decide, rfl, rfl⟩
theorem V_96 : mjVf 96 6 0 := ⟨_, rfl, rfl, by decide, by decide, rfl, rfl⟩
theorem V_101 : mjVf 101 7 0 := ⟨_, rfl, rfl, by decide, by decide, rfl, rfl⟩
theorem V_105 : mjSf 105 1 := ⟨_, rfl, rfl, rfl⟩
theorem V_107 : mjVf 107 7 3 := ⟨_, rfl, rfl, by decide, by decide, rfl, rfl⟩
theorem V_108 : mjVf 108 7 1 := ⟨_, rfl, rfl, by decide, by decide, rfl, rfl⟩
theorem V_126 : mjVf 126 8 1 := ⟨_, rfl, rfl, by decide, by decide, rfl, rfl⟩
theorem V_127 : mjVf 127 8 1 := ⟨_, rfl, rfl, by decide, by decide, rfl, rfl⟩
theorem V_134 : mjVf 134 8 1 := ⟨_, rfl, rfl, by decide, by decide, rfl, rfl⟩
theorem V_135 : mjVf 135 8 0 := ⟨_, rfl, rfl, by decide, by decide, rfl, rfl⟩
theorem V_136 : mjVf 136 8 2 := ⟨_, rfl, rfl, by decide, by decide, rfl, rfl⟩
theorem V_138 : mjVf 138 8 1 := ⟨_, rfl, rfl, by decide, by decide, rfl, rfl⟩
theorem V_139 : mjVf 139 8 0 := ⟨_, rfl, rfl, by decide, by decide, rfl, rfl⟩
theorem V_140 : mjVf 140 8 0 := ⟨_, rfl, rfl, by decide, by decide, rfl, rfl⟩
theorem V_153 : mjSf 153 2 := ⟨_, rfl, rfl, rfl⟩
theorem V_154 : mjVf 154 9 2 := ⟨_, rfl, rfl, by decide, by decide, rfl, rfl⟩
theorem V_155 : mjSf 155 3 := ⟨_, rfl, rfl, rfl⟩
theorem V_156 : mjVf 156 9 3 := ⟨_, rfl, rfl, by decide, by decide, rfl, rfl⟩
theorem V_161 : mjVf 161 9 3 := ⟨_, rfl, rfl, by decide, by decide, rfl, rfl⟩
theorem V_164 : mjVf 164 9 1 := ⟨_, rfl, rfl, by decide, by decide, rfl, rfl⟩
theorem V_165 : mjVf 165 9 1 := ⟨_, rfl, rfl, by decide, by decide, rfl, rfl⟩
theorem V_166 : mjVf 166 9 0 := ⟨_, rfl, rfl, by decide, by decide, rfl, rfl⟩
theorem V_167 : mjVf 167 9 0 := ⟨_, rfl, rfl, by decide, by decide, rfl, rfl⟩
theorem V_169 : mjVf 169 9 1 := ⟨_, rfl, rfl, by decide, by decide, rfl, rfl⟩
theorem V_171 : mjVf 171 9 0 := ⟨_, rfl, rfl, by decide, by decide, rfl, rfl⟩
theorem V_172 : mjVf 172 9 0 := ⟨_, rfl, rfl, by decide, by decide, rfl, rfl⟩
theorem V_183 : mjVf 183 10 0 := ⟨_, rfl, rfl, by decide, by decide, rfl, rfl⟩
theorem V_184 : mjVf 184 10 1 := ⟨_, rfl, rfl, by decide, by decide, rfl, rfl⟩
theorem V_185 : mjVf 185 10 2 := ⟨_, rfl, rfl, by decide, by decide, rfl, rfl⟩
theorem V_186 : mjVf 186 10 2 := ⟨_, rfl, rfl, by decide, by decide, rfl, rfl⟩
theorem V_187 : mjVf 187 10 2 := ⟨_, rfl, rfl, by decide, by decide, rfl, rfl⟩
theorem V_188 : mjVf 188 10 2 := ⟨_, rfl, rfl, by decide, by decide, rfl, rfl⟩
theorem V_192 : mjVf 192 10 1 := ⟨_, rfl, rfl, by decide, by decide, rfl, rfl⟩
theorem V_193 : mjVf 193 10 0 := ⟨_, rfl, rfl, by decide, by decide, rfl, rfl⟩
theorem V_194 : mjVf 194 10 0 := ⟨_, rfl, rfl, by decide, by decide, rfl, rfl⟩
theorem V_195 : mjVf 195 10 1 := ⟨_, rfl, rfl, by decide, by decide, rfl, rfl⟩
theorem V_197 : mjVf 197 10 1 := ⟨_, rfl, rfl, by decide, by decide, rfl, rfl⟩
theorem V_198 : mjVf 198 10 0 := ⟨_, rfl, rfl, by decide, by decide, rfl, rfl⟩
theorem V_199 : mjVf 199 10 1 := ⟨_, rfl, rfl, by decide, by decide, rfl, rfl⟩
theorem V_200 : mjVf 200 10 2 := ⟨_, rfl, rfl, by decide, by decide, rfl, rfl⟩
theorem V_203 : mjVf 203 11 1 := ⟨_, rfl, rfl, by decide, by decide, rfl, rfl⟩
theorem V_205 : mjVf 205 11 0 := ⟨_, rfl, rfl, by decide, by decide, rfl, rfl⟩
theorem V_209 : mjVf 209 11 2 := ⟨_, rfl, rfl, by decide, by decide, rfl, rfl⟩
theorem V_226 : mjVf 226 12 7 := ⟨_, rfl, rfl, by decide, by decide, rfl, rfl⟩
theorem V_227 : mjSf 227 2 := ⟨_, rfl, rfl, rfl⟩
theorem V_228 : mjSf 228 1 := ⟨_, rfl, rfl, rfl⟩
theorem V_230 : mjSf 230 1 := ⟨_, rfl, rfl, rfl⟩
theorem V_231 : mjVf 231 12 1 := ⟨_, rfl, rfl, by decide, by decide, rfl, rfl⟩
theorem V_242 : mjVf 242 12 1 := ⟨_, rfl, rfl, by decide, by decide, rfl, rfl⟩
theorem V_246 : mjVf 246 12 1 := ⟨_, rfl, rfl, by decide, by decide, rfl, rfl⟩
theorem V_247 : mjVf 247 12 0 := ⟨_, rfl, rfl, by decide, by decide, rfl, rfl⟩
theorem V_248 : mjVf 248 12 2 := ⟨_, rfl, rfl, by decide, by decide, rfl, rfl⟩
theorem V_249 : mjVf 249 12 1 := ⟨_, rfl, rfl, by decide, by decide, rfl, rfl⟩
theorem V_250 : mjVf 250 12 1 := ⟨_, rfl, rfl, by decide, by decide, rfl, rfl⟩
theorem V_252 : mjVf 252 12 0 := ⟨_, rfl, rfl, by decide, by decide, rfl, rfl⟩
theorem V_253 : mjVf 253 12 1 := ⟨_, rfl, rfl, by decide, by decide, rfl, rfl⟩
theorem V_254 : mjVf 254 12 1 := ⟨_, rfl, rfl, by decide, by decide, rfl, rfl⟩
theorem V_259 : mjVf 259 12 1 := ⟨_, rfl, rfl, by decide, by decide, rfl, rfl⟩
theorem V_261 : mjVf 261 12 0 := ⟨_, rfl, rfl, by decide, by decide, rfl, rfl⟩
theorem V_262 : mjVf 262 12 0 := ⟨_, rfl, rfl, by decide, by decide, rfl, rfl⟩
theorem V_263 : mjVf 263 12 1 := ⟨_, rfl, rfl, by decide, by decide, rfl, rfl⟩
theorem V_264 : mjVf 264 12 0 := ⟨_, rfl, rfl, by decide, by decide, rfl, rfl⟩
theorem V_265 : mjVf 265 12 1 := ⟨_, rfl, rfl, by decide, by decide, rfl, rfl⟩
theorem V_266 : mjVf 266 12 1 := ⟨_, rfl, rfl, by decide, by decide, rfl, rfl⟩
theorem V_267 : mjVf 267 12 0 := ⟨_, rfl, rfl, by decide, by decide, rfl, rfl⟩
theorem V_268 : mjVf 268 12 2 := ⟨_, rfl, rfl, by decide, by decide, rfl, rfl⟩
theorem V_269 : mjVf 269 12 0 := ⟨_, rfl, rfl, by decide, by decide, rfl, rfl⟩
theorem V_279 : mjVf 279 12 0 := ⟨_, rfl, rfl, by decide, by decide, rfl, rfl⟩
theorem V_299 : mjVf 299 12 0 := ⟨_, rfl, rfl, by decide, by decide, rfl, rfl⟩
theorem V_312 : mjSf 312 1 := ⟨_, rfl, rfl, rfl⟩
theorem V_338 : mjVf 338 12 1 := ⟨_, rfl, rfl, by decide, by decide, rfl, rfl⟩
theorem V_344 : mjVf 344 12 1 := ⟨_, rfl, rfl, by decide, by decide, rfl, rfl⟩
theorem V_347 : mjVf 347 12 1 := ⟨_, rfl, rfl, by decide, by decide, rfl, rfl⟩
theorem V_356 : mjTf 356 0 := ⟨_, rfl, rfl, by decide, rfl, rfl⟩
theorem V_357 : mjTf 357 0 := ⟨_, rfl, rfl, by decide, rfl, rfl⟩
theorem V_358 : mjTf 358 1 := ⟨_, rfl, rfl, by decide, rfl, rfl⟩
theorem V_359 : mjTf 359 0 := ⟨_, rfl, rfl, by decide, rfl, rfl⟩
theorem V_360 : mjSf 360 2 := ⟨_, rfl, rfl, rfl⟩
theorem V_364 : mjSf 364 2 := ⟨_, rfl, rfl, rfl⟩
theorem V_368 : mjSf 368 2 := ⟨_, rfl, rfl, rfl⟩
theorem V_377 : mjSf 377 2 := ⟨_, rfl, rfl, rfl⟩
theorem V_378 : mjSf 378 2 := ⟨_, rfl, rfl, rfl⟩
theorem V_379 : mjSf 379 4 := ⟨_, rfl, rfl, rfl⟩
theorem V_380 : mjSf 380 3 := ⟨_, rfl, rfl, rfl⟩
theorem V_381 : mjSf 381 3 := ⟨_, rfl, rfl, rfl⟩
