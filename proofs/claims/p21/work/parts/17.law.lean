/-! ===== the law's loop as a function ===== -/
def aX (L : Nat) (xs : Nat → Int32) (i : Int32) (k : Int32 → mjU) : mjU := match mj_in i L with
  | true => k (xs i.toNatClampNeg)
  | false => none
theorem mjq_aX {L : Nat} {xs : Nat → Int32} {d C S : Nat} {I : mjI} {Post : Option Value → mjH → Prop} {pc : Nat} {lo : mjLo} {st : List Value} {hp : mjH} {kc ks : Nat} {q : Option Value × mjH} {i : Int32} {kk : Int32 → mjU} (hd : decode I.2.2.1 pc = .ok (.iaload, 1)) (hq : aX L xs i kk = some q) (k : ∀ v, kk v = some q → mjG (mjXs L xs) d C S I Post (pc + 1) lo (.int v :: st) hp kc ks) : mjG (mjXs L xs) d C S I Post pc lo (.int i :: .ref 1000020 :: st) hp kc ks := by
  unfold aX at hq
  split at hq
  · next hi => exact mjr_scr_ld hd (mj_in_ok hi) (k _ hq)
  · exact mj_no hq
theorem mr_13_13 : mjMr 13 13 = some 202 := by decide +kernel
theorem mr_13_17 : mjMr 13 17 = some 258 := by decide +kernel
theorem mr_13_18 : mjMr 13 18 = some 204 := by decide +kernel
theorem mr_13_22 : mjMr 13 22 = some 260 := by decide +kernel
theorem mr_13_23 : mjMr 13 23 = some 206 := by decide +kernel
theorem mr_13_27 : mjMr 13 27 = some 336 := by decide +kernel
theorem mr_13_28 : mjMr 13 28 = some 207 := by decide +kernel
theorem mr_13_32 : mjMr 13 32 = some 337 := by decide +kernel
theorem mr_13_33 : mjMr 13 33 = some 208 := by decide +kernel
theorem mr_13_37 : mjMr 13 37 = some 339 := by decide +kernel
theorem mr_13_38 : mjMr 13 38 = some 210 := by decide +kernel
theorem mr_13_42 : mjMr 13 42 = some 340 := by decide +kernel
theorem mr_13_43 : mjMr 13 43 = some 211 := by decide +kernel
theorem mr_13_46 : mjMr 13 46 = some 229 := by decide +kernel
theorem mr_13_47 : mjMr 13 47 = some 212 := by decide +kernel
theorem mr_13_50 : mjMr 13 50 = some 341 := by decide +kernel
theorem mr_13_51 : mjMr 13 51 = some 213 := by decide +kernel
theorem mr_13_54 : mjMr 13 54 = some 342 := by decide +kernel
theorem mr_13_55 : mjMr 13 55 = some 214 := by decide +kernel
theorem mr_13_58 : mjMr 13 58 = some 343 := by decide +kernel
theorem mr_13_59 : mjMr 13 59 = some 215 := by decide +kernel
theorem mr_13_62 : mjMr 13 62 = some 345 := by decide +kernel
theorem mr_13_63 : mjMr 13 63 = some 216 := by decide +kernel
theorem mr_13_66 : mjMr 13 66 = some 346 := by decide +kernel
theorem mr_13_67 : mjMr 13 67 = some 217 := by decide +kernel
theorem mr_13_70 : mjMr 13 70 = some 348 := by decide +kernel
theorem mr_13_71 : mjMr 13 71 = some 218 := by decide +kernel
theorem mr_13_74 : mjMr 13 74 = some 349 := by decide +kernel
theorem mr_13_75 : mjMr 13 75 = some 219 := by decide +kernel
theorem mr_13_78 : mjMr 13 78 = some 350 := by decide +kernel
theorem mr_13_79 : mjMr 13 79 = some 220 := by decide +kernel
theorem mr_13_82 : mjMr 13 82 = some 245 := by decide +kernel
theorem mr_13_83 : mjMr 13 83 = some 221 := by decide +kernel
theorem mr_13_86 : mjMr 13 86 = some 257 := by decide +kernel
theorem mr_13_87 : mjMr 13 87 = some 222 := by decide +kernel
theorem mr_13_91 : mjMr 13 91 = some 251 := by decide +kernel
theorem mr_13_92 : mjMr 13 92 = some 223 := by decide +kernel
theorem mr_13_95 : mjMr 13 95 = some 255 := by decide +kernel
theorem mr_13_96 : mjMr 13 96 = some 224 := by decide +kernel
theorem mr_13_99 : mjMr 13 99 = some 256 := by decide +kernel
theorem V_202 : mjVf 202 11 5 := ⟨_, rfl, rfl, by decide, by decide, rfl, rfl⟩
theorem V_204 : mjVf 204 11 2 := ⟨_, rfl, rfl, by decide, by decide, rfl, rfl⟩
theorem V_206 : mjVf 206 11 1 := ⟨_, rfl, rfl, by decide, by decide, rfl, rfl⟩
theorem V_207 : mjVf 207 11 2 := ⟨_, rfl, rfl, by decide, by decide, rfl, rfl⟩
theorem V_208 : mjVf 208 11 3 := ⟨_, rfl, rfl, by decide, by decide, rfl, rfl⟩
theorem V_210 : mjVf 210 11 2 := ⟨_, rfl, rfl, by decide, by decide, rfl, rfl⟩
theorem V_211 : mjVf 211 11 1 := ⟨_, rfl, rfl, by decide, by decide, rfl, rfl⟩
theorem V_212 : mjVf 212 11 1 := ⟨_, rfl, rfl, by decide, by decide, rfl, rfl⟩
theorem V_213 : mjVf 213 11 1 := ⟨_, rfl, rfl, by decide, by decide, rfl, rfl⟩
theorem V_214 : mjVf 214 11 2 := ⟨_, rfl, rfl, by decide, by decide, rfl, rfl⟩
theorem V_215 : mjVf 215 11 2 := ⟨_, rfl, rfl, by decide, by decide, rfl, rfl⟩
theorem V_216 : mjVf 216 11 2 := ⟨_, rfl, rfl, by decide, by decide, rfl, rfl⟩
theorem V_217 : mjVf 217 11 2 := ⟨_, rfl, rfl, by decide, by decide, rfl, rfl⟩
theorem V_218 : mjVf 218 11 2 := ⟨_, rfl, rfl, by decide, by decide, rfl, rfl⟩
theorem V_219 : mjVf 219 11 2 := ⟨_, rfl, rfl, by decide, by decide, rfl, rfl⟩
theorem V_220 : mjVf 220 11 2 := ⟨_, rfl, rfl, by decide, by decide, rfl, rfl⟩
theorem V_221 : mjVf 221 11 1 := ⟨_, rfl, rfl, by decide, by decide, rfl, rfl⟩
theorem V_222 : mjVf 222 11 0 := ⟨_, rfl, rfl, by decide, by decide, rfl, rfl⟩
theorem V_223 : mjVf 223 11 1 := ⟨_, rfl, rfl, by decide, by decide, rfl, rfl⟩
theorem V_224 : mjVf 224 11 2 := ⟨_, rfl, rfl, by decide, by decide, rfl, rfl⟩
theorem V_229 : mjVf 229 12 1 := ⟨_, rfl, rfl, by decide, by decide, rfl, rfl⟩
theorem V_245 : mjVf 245 12 2 := ⟨_, rfl, rfl, by decide, by decide, rfl, rfl⟩
theorem V_251 : mjVf 251 12 0 := ⟨_, rfl, rfl, by decide, by decide, rfl, rfl⟩
theorem V_255 : mjVf 255 12 1 := ⟨_, rfl, rfl, by decide, by decide, rfl, rfl⟩
theorem V_256 : mjVf 256 12 2 := ⟨_, rfl, rfl, by decide, by decide, rfl, rfl⟩
theorem V_257 : mjVf 257 12 1 := ⟨_, rfl, rfl, by decide, by decide, rfl, rfl⟩
theorem V_258 : mjVf 258 12 5 := ⟨_, rfl, rfl, by decide, by decide, rfl, rfl⟩
theorem V_260 : mjVf 260 12 2 := ⟨_, rfl, rfl, by decide, by decide, rfl, rfl⟩
theorem V_336 : mjVf 336 12 1 := ⟨_, rfl, rfl, by decide, by decide, rfl, rfl⟩
theorem V_337 : mjVf 337 12 2 := ⟨_, rfl, rfl, by decide, by decide, rfl, rfl⟩
theorem V_339 : mjVf 339 12 3 := ⟨_, rfl, rfl, by decide, by decide, rfl, rfl⟩
theorem V_340 : mjVf 340 12 2 := ⟨_, rfl, rfl, by decide, by decide, rfl, rfl⟩
theorem V_341 : mjVf 341 12 1 := ⟨_, rfl, rfl, by decide, by decide, rfl, rfl⟩
theorem V_342 : mjVf 342 12 1 := ⟨_, rfl, rfl, by decide, by decide, rfl, rfl⟩
theorem V_343 : mjVf 343 12 2 := ⟨_, rfl, rfl, by decide, by decide, rfl, rfl⟩
theorem V_345 : mjVf 345 12 2 := ⟨_, rfl, rfl, by decide, by decide, rfl, rfl⟩
theorem V_346 : mjVf 346 12 2 := ⟨_, rfl, rfl, by decide, by decide, rfl, rfl⟩
theorem V_348 : mjVf 348 12 2 := ⟨_, rfl, rfl, by decide, by decide, rfl, rfl⟩
theorem V_349 : mjVf 349 12 2 := ⟨_, rfl, rfl, by decide, by decide, rfl, rfl⟩
theorem V_350 : mjVf 350 12 2 := ⟨_, rfl, rfl, by decide, by decide, rfl, rfl⟩
theorem D_900_18 : decode lawI.2.2.1 18 = .ok (.iload_n 3, 1) := dzq_29 (by decide +kernel)
theorem D_900_19 : decode lawI.2.2.1 19 = .ok (.aload_n 0, 1) := dzq_42 (by decide +kernel)
theorem D_900_20 : decode lawI.2.2.1 20 = .ok (.arraylength, 1) := by decide +kernel
theorem D_900_21 : decode lawI.2.2.1 21 = .ok (.bipush 6, 2) := dzq_16 (by decide +kernel)
theorem D_900_23 : decode lawI.2.2.1 23 = .ok (.isub, 1) := dzq_100 (by decide +kernel)
theorem D_900_24 : decode lawI.2.2.1 24 = .ok (.if_icmp .gt 746, 3) := dzq_163 (by decide +kernel)
theorem D_900_27 : decode lawI.2.2.1 27 = .ok (.aload_n 0, 1) := dzq_42 (by decide +kernel)
theorem D_900_28 : decode lawI.2.2.1 28 = .ok (.iload_n 3, 1) := dzq_29 (by decide +kernel)
theorem D_900_29 : decode lawI.2.2.1 29 = .ok (.iaload, 1) := dzq_46 (by decide +kernel)
theorem D_900_30 : decode lawI.2.2.1 30 = .ok (.bipush 31, 2) := dzq_16 (by decide +kernel)
theorem D_900_32 : decode lawI.2.2.1 32 = .ok (.iand, 1) := by decide +kernel
theorem D_900_33 : decode lawI.2.2.1 33 = .ok (.tableswitch 731 0 19 #[95, 158, 207, 230, 263, 306, 339, 362, 385, 408, 441, 474, 507, 540, 573, 606, 639, 662, 675, 698], 95) := by decide +kernel
theorem D_900_128 : decode lawI.2.2.1 128 = .ok (.aload_n 1, 1) := dzq_43 (by decide +kernel)
theorem D_900_129 : decode lawI.2.2.1 129 = .ok (.aload_n 0, 1) := dzq_42 (by decide +kernel)
theorem D_900_130 : decode lawI.2.2.1 130 = .ok (.iload_n 3, 1) := dzq_29 (by decide +kernel)
theorem D_900_131 : decode lawI.2.2.1 131 = .ok (.iconst 1, 1) := dzq_4 (by decide +kernel)
theorem D_900_132 : decode lawI.2.2.1 132 = .ok (.iadd, 1) := dzq_96 (by decide +kernel)
theorem D_900_133 : decode lawI.2.2.1 133 = .ok (.iaload, 1) := dzq_46 (by decide +kernel)
theorem D_900_134 : decode lawI.2.2.1 134 = .ok (.aload_n 0, 1) := dzq_42 (by decide +kernel)
theorem D_900_135 : decode lawI.2.2.1 135 = .ok (.iload_n 3, 1) := dzq_29 (by decide +kernel)
theorem D_900_136 : decode lawI.2.2.1 136 = .ok (.iconst 2, 1) := dzq_5 (by decide +kernel)
theorem D_900_137 : decode lawI.2.2.1 137 = .ok (.iadd, 1) := dzq_96 (by decide +kernel)
theorem D_900_138 : decode lawI.2.2.1 138 = .ok (.iaload, 1) := dzq_46 (by decide +kernel)
theorem D_900_139 : decode lawI.2.2.1 139 = .ok (.aload_n 0, 1) := dzq_42 (by decide +kernel)
theorem D_900_140 : decode lawI.2.2.1 140 = .ok (.iload_n 3, 1) := dzq_29 (by decide +kernel)
theorem D_900_141 : decode lawI.2.2.1 141 = .ok (.iconst 3, 1) := dzq_6 (by decide +kernel)
theorem D_900_142 : decode lawI.2.2.1 142 = .ok (.iadd, 1) := dzq_96 (by decide +kernel)
theorem D_900_143 : decode lawI.2.2.1 143 = .ok (.iaload, 1) := dzq_46 (by decide +kernel)
theorem D_900_144 : decode lawI.2.2.1 144 = .ok (.aload_n 0, 1) := dzq_42 (by decide +kernel)
theorem D_900_145 : decode lawI.2.2.1 145 = .ok (.iload_n 3, 1) := dzq_29 (by decide +kernel)
theorem D_900_146 : decode lawI.2.2.1 146 = .ok (.iconst 4, 1) := dzq_7 (by decide +kernel)
theorem D_900_147 : decode lawI.2.2.1 147 = .ok (.iadd, 1) := dzq_96 (by decide +kernel)
theorem D_900_148 : decode lawI.2.2.1 148 = .ok (.iaload, 1) := dzq_46 (by decide +kernel)
theorem D_900_149 : decode lawI.2.2.1 149 = .ok (.aload_n 0, 1) := dzq_42 (by decide +kernel)
theorem D_900_150 : decode lawI.2.2.1 150 = .ok (.iload_n 3, 1) := dzq_29 (by decide +kernel)
theorem D_900_151 : decode lawI.2.2.1 151 = .ok (.iconst 5, 1) := dzq_8 (by decide +kernel)
theorem D_900_152 : decode lawI.2.2.1 152 = .ok (.iadd, 1) := dzq_96 (by decide +kernel)
theorem D_900_153 : decode lawI.2.2.1 153 = .ok (.iaload, 1) := dzq_46 (by decide +kernel)
theorem D_900_154 : decode lawI.2.2.1 154 = .ok (.invokevirtual 13, 3) := dzq_182 (by decide +kernel)
theorem D_900_157 : decode lawI.2.2.1 157 = .ok (.pop, 1) := dzq_87 (by decide +kernel)
theorem D_900_158 : decode lawI.2.2.1 158 = .ok (.aload_n 2, 1) := dzq_44 (by decide +kernel)
theorem D_900_159 : decode lawI.2.2.1 159 = .ok (.aload_n 0, 1) := dzq_42 (by decide +kernel)
theorem D_900_160 : decode lawI.2.2.1 160 = .ok (.iload_n 3, 1) := dzq_29 (by decide +kernel)
theorem D_900_161 : decode lawI.2.2.1 161 = .ok (.iconst 1, 1) := dzq_4 (by decide +kernel)
theorem D_900_162 : decode lawI.2.2.1 162 = .ok (.iadd, 1) := dzq_96 (by decide +kernel)
theorem D_900_163 : decode lawI.2.2.1 163 = .ok (.iaload, 1) := dzq_46 (by decide +kernel)
theorem D_900_164 : decode lawI.2.2.1 164 = .ok (.aload_n 0, 1) := dzq_42 (by decide +kernel)
theorem D_900_165 : decode lawI.2.2.1 165 = .ok (.iload_n 3, 1) := dzq_29 (by decide +kernel)
theorem D_900_166 : decode lawI.2.2.1 166 = .ok (.iconst 2, 1) := dzq_5 (by decide +kernel)
theorem D_900_167 : decode lawI.2.2.1 167 = .ok (.iadd, 1) := dzq_96 (by decide +kernel)
theorem D_900_168 : decode lawI.2.2.1 168 = .ok (.iaload, 1) := dzq_46 (by decide +kernel)
theorem D_900_169 : decode lawI.2.2.1 169 = .ok (.aload_n 0, 1) := dzq_42 (by decide +kernel)
theorem D_900_170 : decode lawI.2.2.1 170 = .ok (.iload_n 3, 1) := dzq_29 (by decide +kernel)
theorem D_900_171 : decode lawI.2.2.1 171 = .ok (.iconst 3, 1) := dzq_6 (by decide +kernel)
theorem D_900_172 : decode lawI.2.2.1 172 = .ok (.iadd, 1) := dzq_96 (by decide +kernel)
theorem D_900_173 : decode lawI.2.2.1 173 = .ok (.iaload, 1) := dzq_46 (by decide +kernel)
theorem D_900_174 : decode lawI.2.2.1 174 = .ok (.aload_n 0, 1) := dzq_42 (by decide +kernel)
theorem D_900_175 : decode lawI.2.2.1 175 = .ok (.iload_n 3, 1) := dzq_29 (by decide +kernel)
theorem D_900_176 : decode lawI.2.2.1 176 = .ok (.iconst 4, 1) := dzq_7 (by decide +kernel)
theorem D_900_177 : decode lawI.2.2.1 177 = .ok (.iadd, 1) := dzq_96 (by decide +kernel)
theorem D_900_178 : decode lawI.2.2.1 178 = .ok (.iaload, 1) := dzq_46 (by decide +kernel)
theorem D_900_179 : decode lawI.2.2.1 179 = .ok (.aload_n 0, 1) := dzq_42 (by decide +kernel)
theorem D_900_180 : decode lawI.2.2.1 180 = .ok (.iload_n 3, 1) := dzq_29 (by decide +kernel)
theorem D_900_181 : decode lawI.2.2.1 181 = .ok (.iconst 5, 1) := dzq_8 (by decide +kernel)
theorem D_900_182 : decode lawI.2.2.1 182 = .ok (.iadd, 1) := dzq_96 (by decide +kernel)
theorem D_900_183 : decode lawI.2.2.1 183 = .ok (.iaload, 1) := dzq_46 (by decide +kernel)
theorem D_900_184 : decode lawI.2.2.1 184 = .ok (.invokevirtual 17, 3) := dzq_182 (by decide +kernel)
theorem D_900_187 : decode lawI.2.2.1 187 = .ok (.pop, 1) := dzq_87 (by decide +kernel)
theorem D_900_188 : decode lawI.2.2.1 188 = .ok (.goto 576, 3) := dzq_167 (by decide +kernel)
theorem D_900_191 : decode lawI.2.2.1 191 = .ok (.aload_n 1, 1) := dzq_43 (by decide +kernel)
theorem D_900_192 : decode lawI.2.2.1 192 = .ok (.aload_n 0, 1) := dzq_42 (by decide +kernel)
theorem D_900_193 : decode lawI.2.2.1 193 = .ok (.iload_n 3, 1) := dzq_29 (by decide +kernel)
theorem D_900_194 : decode lawI.2.2.1 194 = .ok (.iconst 1, 1) := dzq_4 (by decide +kernel)
theorem D_900_195 : decode lawI.2.2.1 195 = .ok (.iadd, 1) := dzq_96 (by decide +kernel)
theorem D_900_196 : decode lawI.2.2.1 196 = .ok (.iaload, 1) := dzq_46 (by decide +kernel)
theorem D_900_197 : decode lawI.2.2.1 197 = .ok (.aload_n 0, 1) := dzq_42 (by decide +kernel)
theorem D_900_198 : decode lawI.2.2.1 198 = .ok (.iload_n 3, 1) := dzq_29 (by decide +kernel)
theorem D_900_199 : decode lawI.2.2.1 199 = .ok (.iconst 2, 1) := dzq_5 (by decide +kernel)
theorem D_900_200 : decode lawI.2.2.1 200 = .ok (.iadd, 1) := dzq_96 (by decide +kernel)
theorem D_900_201 : decode lawI.2.2.1 201 = .ok (.iaload, 1) := dzq_46 (by decide +kernel)
theorem D_900_202 : decode lawI.2.2.1 202 = .ok (.ifCond .eq 7, 3) := dzq_153 (by decide +kernel)
theorem D_900_205 : decode lawI.2.2.1 205 = .ok (.iconst 1, 1) := dzq_4 (by decide +kernel)
theorem D_900_206 : decode lawI.2.2.1 206 = .ok (.goto 4, 3) := dzq_167 (by decide +kernel)
theorem D_900_209 : decode lawI.2.2.1 209 = .ok (.iconst 0, 1) := dzq_3 (by decide +kernel)
theorem D_900_210 : decode lawI.2.2.1 210 = .ok (.invokevirtual 18, 3) := dzq_182 (by decide +kernel)
theorem D_900_213 : decode lawI.2.2.1 213 = .ok (.pop, 1) := dzq_87 (by decide +kernel)
theorem D_900_214 : decode lawI.2.2.1 214 = .ok (.aload_n 2, 1) := dzq_44 (by decide +kernel)
theorem D_900_215 : decode lawI.2.2.1 215 = .ok (.aload_n 0, 1) := dzq_42 (by decide +kernel)
theorem D_900_216 : decode lawI.2.2.1 216 = .ok (.iload_n 3, 1) := dzq_29 (by decide +kernel)
theorem D_900_217 : decode lawI.2.2.1 217 = .ok (.iconst 1, 1) := dzq_4 (by decide +kernel)
theorem D_900_218 : decode lawI.2.2.1 218 = .ok (.iadd, 1) := dzq_96 (by decide +kernel)
theorem D_900_219 : decode lawI.2.2.1 219 = .ok (.iaload, 1) := dzq_46 (by decide +kernel)
theorem D_900_220 : decode lawI.2.2.1 220 = .ok (.aload_n 0, 1) := dzq_42 (by decide +kernel)
theorem D_900_221 : decode lawI.2.2.1 221 = .ok (.iload_n 3, 1) := dzq_29 (by decide +kernel)
theorem D_900_222 : decode lawI.2.2.1 222 = .ok (.iconst 2, 1) := dzq_5 (by decide +kernel)
theorem D_900_223 : decode lawI.2.2.1 223 = .ok (.iadd, 1) := dzq_96 (by decide +kernel)
theorem D_900_224 : decode lawI.2.2.1 224 = .ok (.iaload, 1) := dzq_46 (by decide +kernel)
theorem D_900_225 : decode lawI.2.2.1 225 = .ok (.ifCond .eq 7, 3) := dzq_153 (by decide +kernel)
theorem D_900_228 : decode lawI.2.2.1 228 = .ok (.iconst 1, 1) := dzq_4 (by decide +kernel)
theorem D_900_229 : decode lawI.2.2.1 229 = .ok (.goto 4, 3) := dzq_167 (by decide +kernel)
theorem D_900_232 : decode lawI.2.2.1 232 = .ok (.iconst 0, 1) := dzq_3 (by decide +kernel)
theorem D_900_233 : decode lawI.2.2.1 233 = .ok (.invokevirtual 22, 3) := dzq_182 (by decide +kernel)
theorem D_900_236 : decode lawI.2.2.1 236 = .ok (.pop, 1) := dzq_87 (by decide +kernel)
theorem D_900_237 : decode lawI.2.2.1 237 = .ok (.goto 527, 3) := dzq_167 (by decide +kernel)
theorem D_900_240 : decode lawI.2.2.1 240 = .ok (.aload_n 1, 1) := dzq_43 (by decide +kernel)
theorem D_900_241 : decode lawI.2.2.1 241 = .ok (.aload_n 0, 1) := dzq_42 (by decide +kernel)
theorem D_900_242 : decode lawI.2.2.1 242 = .ok (.iload_n 3, 1) := dzq_29 (by decide +kernel)
theorem D_900_243 : decode lawI.2.2.1 243 = .ok (.iconst 1, 1) := dzq_4 (by decide +kernel)
theorem D_900_244 : decode lawI.2.2.1 244 = .ok (.iadd, 1) := dzq_96 (by decide +kernel)
theorem D_900_245 : decode lawI.2.2.1 245 = .ok (.iaload, 1) := dzq_46 (by decide +kernel)
theorem D_900_246 : decode lawI.2.2.1 246 = .ok (.invokevirtual 23, 3) := dzq_182 (by decide +kernel)
theorem D_900_249 : decode lawI.2.2.1 249 = .ok (.pop, 1) := dzq_87 (by decide +kernel)
theorem D_900_250 : decode lawI.2.2.1 250 = .ok (.aload_n 2, 1) := dzq_44 (by decide +kernel)
theorem D_900_251 : decode lawI.2.2.1 251 = .ok (.aload_n 0, 1) := dzq_42 (by decide +kernel)
theorem D_900_252 : decode lawI.2.2.1 252 = .ok (.iload_n 3, 1) := dzq_29 (by decide +kernel)
theorem D_900_253 : decode lawI.2.2.1 253 = .ok (.iconst 1, 1) := dzq_4 (by decide +kernel)
theorem D_900_254 : decode lawI.2.2.1 254 = .ok (.iadd, 1) := dzq_96 (by decide +kernel)
theorem D_900_255 : decode lawI.2.2.1 255 = .ok (.iaload, 1) := dzq_46 (by decide +kernel)
theorem D_900_256 : decode lawI.2.2.1 256 = .ok (.invokevirtual 27, 3) := dzq_182 (by decide +kernel)
theorem D_900_259 : decode lawI.2.2.1 259 = .ok (.pop, 1) := dzq_87 (by decide +kernel)
theorem D_900_260 : decode lawI.2.2.1 260 = .ok (.goto 504, 3) := dzq_167 (by decide +kernel)
theorem D_900_263 : decode lawI.2.2.1 263 = .ok (.aload_n 1, 1) := dzq_43 (by decide +kernel)
theorem D_900_264 : decode lawI.2.2.1 264 = .ok (.aload_n 0, 1) := dzq_42 (by decide +kernel)
theorem D_900_265 : decode lawI.2.2.1 265 = .ok (.iload_n 3, 1) := dzq_29 (by decide +kernel)
theorem D_900_266 : decode lawI.2.2.1 266 = .ok (.iconst 1, 1) := dzq_4 (by decide +kernel)
theorem D_900_267 : decode lawI.2.2.1 267 = .ok (.iadd, 1) := dzq_96 (by decide +kernel)
theorem D_900_268 : decode lawI.2.2.1 268 = .ok (.iaload, 1) := dzq_46 (by decide +kernel)
theorem D_900_269 : decode lawI.2.2.1 269 = .ok (.aload_n 0, 1) := dzq_42 (by decide +kernel)
theorem D_900_270 : decode lawI.2.2.1 270 = .ok (.iload_n 3, 1) := dzq_29 (by decide +kernel)
theorem D_900_271 : decode lawI.2.2.1 271 = .ok (.iconst 2, 1) := dzq_5 (by decide +kernel)
theorem D_900_272 : decode lawI.2.2.1 272 = .ok (.iadd, 1) := dzq_96 (by decide +kernel)
theorem D_900_273 : decode lawI.2.2.1 273 = .ok (.iaload, 1) := dzq_46 (by decide +kernel)
theorem D_900_274 : decode lawI.2.2.1 274 = .ok (.invokevirtual 28, 3) := dzq_182 (by decide +kernel)
theorem D_900_277 : decode lawI.2.2.1 277 = .ok (.pop, 1) := dzq_87 (by decide +kernel)
theorem D_900_278 : decode lawI.2.2.1 278 = .ok (.aload_n 2, 1) := dzq_44 (by decide +kernel)
theorem D_900_279 : decode lawI.2.2.1 279 = .ok (.aload_n 0, 1) := dzq_42 (by decide +kernel)
theorem D_900_280 : decode lawI.2.2.1 280 = .ok (.iload_n 3, 1) := dzq_29 (by decide +kernel)
theorem D_900_281 : decode lawI.2.2.1 281 = .ok (.iconst 1, 1) := dzq_4 (by decide +kernel)
theorem D_900_282 : decode lawI.2.2.1 282 = .ok (.iadd, 1) := dzq_96 (by decide +kernel)
theorem D_900_283 : decode lawI.2.2.1 283 = .ok (.iaload, 1) := dzq_46 (by decide +kernel)
theorem D_900_284 : decode lawI.2.2.1 284 = .ok (.aload_n 0, 1) := dzq_42 (by decide +kernel)
theorem D_900_285 : decode lawI.2.2.1 285 = .ok (.iload_n 3, 1) := dzq_29 (by decide +kernel)
theorem D_900_286 : decode lawI.2.2.1 286 = .ok (.iconst 2, 1) := dzq_5 (by decide +kernel)
theorem D_900_287 : decode lawI.2.2.1 287 = .ok (.iadd, 1) := dzq_96 (by decide +kernel)
theorem D_900_288 : decode lawI.2.2.1 288 = .ok (.iaload, 1) := dzq_46 (by decide +kernel)
theorem D_900_289 : decode lawI.2.2.1 289 = .ok (.invokevirtual 32, 3) := dzq_182 (by decide +kernel)
theorem D_900_292 : decode lawI.2.2.1 292 = .ok (.pop, 1) := dzq_87 (by decide +kernel)
theorem D_900_293 : decode lawI.2.2.1 293 = .ok (.goto 471, 3) := dzq_167 (by decide +kernel)
theorem D_900_296 : decode lawI.2.2.1 296 = .ok (.aload_n 1, 1) := dzq_43 (by decide +kernel)
theorem D_900_297 : decode lawI.2.2.1 297 = .ok (.aload_n 0, 1) := dzq_42 (by decide +kernel)
theorem D_900_298 : decode lawI.2.2.1 298 = .ok (.iload_n 3, 1) := dzq_29 (by decide +kernel)
theorem D_900_299 : decode lawI.2.2.1 299 = .ok (.iconst 1, 1) := dzq_4 (by decide +kernel)
theorem D_900_300 : decode lawI.2.2.1 300 = .ok (.iadd, 1) := dzq_96 (by decide +kernel)
theorem D_900_301 : decode lawI.2.2.1 301 = .ok (.iaload, 1) := dzq_46 (by decide +kernel)
theorem D_900_302 : decode lawI.2.2.1 302 = .ok (.aload_n 0, 1) := dzq_42 (by decide +kernel)
theorem D_900_303 : decode lawI.2.2.1 303 = .ok (.iload_n 3, 1) := dzq_29 (by decide +kernel)
theorem D_900_304 : decode lawI.2.2.1 304 = .ok (.iconst 2, 1) := dzq_5 (by decide +kernel)
theorem D_900_305 : decode lawI.2.2.1 305 = .ok (.iadd, 1) := dzq_96 (by decide +kernel)
theorem D_900_306 : decode lawI.2.2.1 306 = .ok (.iaload, 1) := dzq_46 (by decide +kernel)
theorem D_900_307 : decode lawI.2.2.1 307 = .ok (.aload_n 0, 1) := dzq_42 (by decide +kernel)
theorem D_900_308 : decode lawI.2.2.1 308 = .ok (.iload_n 3, 1) := dzq_29 (by decide +kernel)
theorem D_900_309 : decode lawI.2.2.1 309 = .ok (.iconst 3, 1) := dzq_6 (by decide +kernel)
theorem D_900_310 : decode lawI.2.2.1 310 = .ok (.iadd, 1) := dzq_96 (by decide +kernel)
theorem D_900_311 : decode lawI.2.2.1 311 = .ok (.iaload, 1) := dzq_46 (by decide +kernel)
theorem D_900_312 : decode lawI.2.2.1 312 = .ok (.invokevirtual 33, 3) := dzq_182 (by decide +kernel)
theorem D_900_315 : decode lawI.2.2.1 315 = .ok (.pop, 1) := dzq_87 (by decide +kernel)
theorem D_900_316 : decode lawI.2.2.1 316 = .ok (.aload_n 2, 1) := dzq_44 (by decide +kernel)
theorem D_900_317 : decode lawI.2.2.1 317 = .ok (.aload_n 0, 1) := dzq_42 (by decide +kernel)
theorem D_900_318 : decode lawI.2.2.1 318 = .ok (.iload_n 3, 1) := dzq_29 (by decide +kernel)
theorem D_900_319 : decode lawI.2.2.1 319 = .ok (.iconst 1, 1) := dzq_4 (by decide +kernel)
theorem D_900_320 : decode lawI.2.2.1 320 = .ok (.iadd, 1) := dzq_96 (by decide +kernel)
theorem D_900_321 : decode lawI.2.2.1 321 = .ok (.iaload, 1) := dzq_46 (by decide +kernel)
theorem D_900_322 : decode lawI.2.2.1 322 = .ok (.aload_n 0, 1) := dzq_42 (by decide +kernel)
theorem D_900_323 : decode lawI.2.2.1 323 = .ok (.iload_n 3, 1) := dzq_29 (by decide +kernel)
theorem D_900_324 : decode lawI.2.2.1 324 = .ok (.iconst 2, 1) := dzq_5 (by decide +kernel)
theorem D_900_325 : decode lawI.2.2.1 325 = .ok (.iadd, 1) := dzq_96 (by decide +kernel)
theorem D_900_326 : decode lawI.2.2.1 326 = .ok (.iaload, 1) := dzq_46 (by decide +kernel)
theorem D_900_327 : decode lawI.2.2.1 327 = .ok (.aload_n 0, 1) := dzq_42 (by decide +kernel)
theorem D_900_328 : decode lawI.2.2.1 328 = .ok (.iload_n 3, 1) := dzq_29 (by decide +kernel)
theorem D_900_329 : decode lawI.2.2.1 329 = .ok (.iconst 3, 1) := dzq_6 (by decide +kernel)
theorem D_900_330 : decode lawI.2.2.1 330 = .ok (.iadd, 1) := dzq_96 (by decide +kernel)
theorem D_900_331 : decode lawI.2.2.1 331 = .ok (.iaload, 1) := dzq_46 (by decide +kernel)
theorem D_900_332 : decode lawI.2.2.1 332 = .ok (.invokevirtual 37, 3) := dzq_182 (by decide +kernel)
theorem D_900_335 : decode lawI.2.2.1 335 = .ok (.pop, 1) := dzq_87 (by decide +kernel)
theorem D_900_336 : decode lawI.2.2.1 336 = .ok (.goto 428, 3) := dzq_167 (by decide +kernel)
theorem D_900_339 : decode lawI.2.2.1 339 = .ok (.aload_n 1, 1) := dzq_43 (by decide +kernel)
theorem D_900_340 : decode lawI.2.2.1 340 = .ok (.aload_n 0, 1) := dzq_42 (by decide +kernel)
theorem D_900_341 : decode lawI.2.2.1 341 = .ok (.iload_n 3, 1) := dzq_29 (by decide +kernel)
theorem D_900_342 : decode lawI.2.2.1 342 = .ok (.iconst 1, 1) := dzq_4 (by decide +kernel)
theorem D_900_343 : decode lawI.2.2.1 343 = .ok (.iadd, 1) := dzq_96 (by decide +kernel)
theorem D_900_344 : decode lawI.2.2.1 344 = .ok (.iaload, 1) := dzq_46 (by decide +kernel)
theorem D_900_345 : decode lawI.2.2.1 345 = .ok (.aload_n 0, 1) := dzq_42 (by decide +kernel)
theorem D_900_346 : decode lawI.2.2.1 346 = .ok (.iload_n 3, 1) := dzq_29 (by decide +kernel)
theorem D_900_347 : decode lawI.2.2.1 347 = .ok (.iconst 2, 1) := dzq_5 (by decide +kernel)
theorem D_900_348 : decode lawI.2.2.1 348 = .ok (.iadd, 1) := dzq_96 (by decide +kernel)
theorem D_900_349 : decode lawI.2.2.1 349 = .ok (.iaload, 1) := dzq_46 (by decide +kernel)
theorem D_900_350 : decode lawI.2.2.1 350 = .ok (.invokevirtual 38, 3) := dzq_182 (by decide +kernel)
theorem D_900_353 : decode lawI.2.2.1 353 = .ok (.pop, 1) := dzq_87 (by decide +kernel)
theorem D_900_354 : decode lawI.2.2.1 354 = .ok (.aload_n 2, 1) := dzq_44 (by decide +kernel)
theorem D_900_355 : decode lawI.2.2.1 355 = .ok (.aload_n 0, 1) := dzq_42 (by decide +kernel)
theorem D_900_356 : decode lawI.2.2.1 356 = .ok (.iload_n 3, 1) := dzq_29 (by decide +kernel)
theorem D_900_357 : decode lawI.2.2.1 357 = .ok (.iconst 1, 1) := dzq_4 (by decide +kernel)
theorem D_900_358 : decode lawI.2.2.1 358 = .ok (.iadd, 1) := dzq_96 (by decide +kernel)
theorem D_900_359 : decode lawI.2.2.1 359 = .ok (.iaload, 1) := dzq_46 (by decide +kernel)
theorem D_900_360 : decode lawI.2.2.1 360 = .ok (.aload_n 0, 1) := dzq_42 (by decide +kernel)
theorem D_900_361 : decode lawI.2.2.1 361 = .ok (.iload_n 3, 1) := dzq_29 (by decide +kernel)
theorem D_900_362 : decode lawI.2.2.1 362 = .ok (.iconst 2, 1) := dzq_5 (by decide +kernel)
theorem D_900_363 : decode lawI.2.2.1 363 = .ok (.iadd, 1) := dzq_96 (by decide +kernel)
theorem D_900_364 : decode lawI.2.2.1 364 = .ok (.iaload, 1) := dzq_46 (by decide +kernel)
theorem D_900_365 : decode lawI.2.2.1 365 = .ok (.invokevirtual 42, 3) := dzq_182 (by decide +kernel)
theorem D_900_368 : decode lawI.2.2.1 368 = .ok (.pop, 1) := dzq_87 (by decide +kernel)
theorem D_900_369 : decode lawI.2.2.1 369 = .ok (.goto 395, 3) := dzq_167 (by decide +kernel)
theorem D_900_372 : decode lawI.2.2.1 372 = .ok (.aload_n 1, 1) := dzq_43 (by decide +kernel)
theorem D_900_373 : decode lawI.2.2.1 373 = .ok (.aload_n 0, 1) := dzq_42 (by decide +kernel)
theorem D_900_374 : decode lawI.2.2.1 374 = .ok (.iload_n 3, 1) := dzq_29 (by decide +kernel)
theorem D_900_375 : decode lawI.2.2.1 375 = .ok (.iconst 1, 1) := dzq_4 (by decide +kernel)
theorem D_900_376 : decode lawI.2.2.1 376 = .ok (.iadd, 1) := dzq_96 (by decide +kernel)
theorem D_900_377 : decode lawI.2.2.1 377 = .ok (.iaload, 1) := dzq_46 (by decide +kernel)
theorem D_900_378 : decode lawI.2.2.1 378 = .ok (.invokevirtual 43, 3) := dzq_182 (by decide +kernel)
theorem D_900_381 : decode lawI.2.2.1 381 = .ok (.pop, 1) := dzq_87 (by decide +kernel)
theorem D_900_382 : decode lawI.2.2.1 382 = .ok (.aload_n 2, 1) := dzq_44 (by decide +kernel)
theorem D_900_383 : decode lawI.2.2.1 383 = .ok (.aload_n 0, 1) := dzq_42 (by decide +kernel)
theorem D_900_384 : decode lawI.2.2.1 384 = .ok (.iload_n 3, 1) := dzq_29 (by decide +kernel)
theorem D_900_385 : decode lawI.2.2.1 385 = .ok (.iconst 1, 1) := dzq_4 (by decide +kernel)
theorem D_900_386 : decode lawI.2.2.1 386 = .ok (.iadd, 1) := dzq_96 (by decide +kernel)
theorem D_900_387 : decode lawI.2.2.1 387 = .ok (.iaload, 1) := dzq_46 (by decide +kernel)
theorem D_900_388 : decode lawI.2.2.1 388 = .ok (.invokevirtual 46, 3) := dzq_182 (by decide +kernel)
theorem D_900_391 : decode lawI.2.2.1 391 = .ok (.pop, 1) := dzq_87 (by decide +kernel)
theorem D_900_392 : decode lawI.2.2.1 392 = .ok (.goto 372, 3) := dzq_167 (by decide +kernel)
theorem D_900_395 : decode lawI.2.2.1 395 = .ok (.aload_n 1, 1) := dzq_43 (by decide +kernel)
theorem D_900_396 : decode lawI.2.2.1 396 = .ok (.aload_n 0, 1) := dzq_42 (by decide +kernel)
theorem D_900_397 : decode lawI.2.2.1 397 = .ok (.iload_n 3, 1) := dzq_29 (by decide +kernel)
theorem D_900_398 : decode lawI.2.2.1 398 = .ok (.iconst 1, 1) := dzq_4 (by decide +kernel)
theorem D_900_399 : decode lawI.2.2.1 399 = .ok (.iadd, 1) := dzq_96 (by decide +kernel)
theorem D_900_400 : decode lawI.2.2.1 400 = .ok (.iaload, 1) := dzq_46 (by decide +kernel)
theorem D_900_401 : decode lawI.2.2.1 401 = .ok (.invokevirtual 47, 3) := dzq_182 (by decide +kernel)
theorem D_900_404 : decode lawI.2.2.1 404 = .ok (.pop, 1) := dzq_87 (by decide +kernel)
theorem D_900_405 : decode lawI.2.2.1 405 = .ok (.aload_n 2, 1) := dzq_44 (by decide +kernel)
theorem D_900_406 : decode lawI.2.2.1 406 = .ok (.aload_n 0, 1) := dzq_42 (by decide +kernel)
theorem D_900_407 : decode lawI.2.2.1 407 = .ok (.iload_n 3, 1) := dzq_29 (by decide +kernel)
theorem D_900_408 : decode lawI.2.2.1 408 = .ok (.iconst 1, 1) := dzq_4 (by decide +kernel)
theorem D_900_409 : decode lawI.2.2.1 409 = .ok (.iadd, 1) := dzq_96 (by decide +kernel)
theorem D_900_410 : decode lawI.2.2.1 410 = .ok (.iaload, 1) := dzq_46 (by decide +kernel)
theorem D_900_411 : decode lawI.2.2.1 411 = .ok (.invokevirtual 50, 3) := dzq_182 (by decide +kernel)
theorem D_900_414 : decode lawI.2.2.1 414 = .ok (.pop, 1) := dzq_87 (by decide +kernel)
theorem D_900_415 : decode lawI.2.2.1 415 = .ok (.goto 349, 3) := dzq_167 (by decide +kernel)
theorem D_900_418 : decode lawI.2.2.1 418 = .ok (.aload_n 1, 1) := dzq_43 (by decide +kernel)
theorem D_900_419 : decode lawI.2.2.1 419 = .ok (.aload_n 0, 1) := dzq_42 (by decide +kernel)
theorem D_900_420 : decode lawI.2.2.1 420 = .ok (.iload_n 3, 1) := dzq_29 (by decide +kernel)
theorem D_900_421 : decode lawI.2.2.1 421 = .ok (.iconst 1, 1) := dzq_4 (by decide +kernel)
theorem D_900_422 : decode lawI.2.2.1 422 = .ok (.iadd, 1) := dzq_96 (by decide +kernel)
theorem D_900_423 : decode lawI.2.2.1 423 = .ok (.iaload, 1) := dzq_46 (by decide +kernel)
theorem D_900_424 : decode lawI.2.2.1 424 = .ok (.invokevirtual 51, 3) := dzq_182 (by decide +kernel)
theorem D_900_427 : decode lawI.2.2.1 427 = .ok (.pop, 1) := dzq_87 (by decide +kernel)
theorem D_900_428 : decode lawI.2.2.1 428 = .ok (.aload_n 2, 1) := dzq_44 (by decide +kernel)
theorem D_900_429 : decode lawI.2.2.1 429 = .ok (.aload_n 0, 1) := dzq_42 (by decide +kernel)
theorem D_900_430 : decode lawI.2.2.1 430 = .ok (.iload_n 3, 1) := dzq_29 (by decide +kernel)
theorem D_900_431 : decode lawI.2.2.1 431 = .ok (.iconst 1, 1) := dzq_4 (by decide +kernel)
theorem D_900_432 : decode lawI.2.2.1 432 = .ok (.iadd, 1) := dzq_96 (by decide +kernel)
theorem D_900_433 : decode lawI.2.2.1 433 = .ok (.iaload, 1) := dzq_46 (by decide +kernel)
theorem D_900_434 : decode lawI.2.2.1 434 = .ok (.invokevirtual 54, 3) := dzq_182 (by decide +kernel)
theorem D_900_437 : decode lawI.2.2.1 437 = .ok (.pop, 1) := dzq_87 (by decide +kernel)
theorem D_900_438 : decode lawI.2.2.1 438 = .ok (.goto 326, 3) := dzq_167 (by decide +kernel)
theorem D_900_441 : decode lawI.2.2.1 441 = .ok (.aload_n 1, 1) := dzq_43 (by decide +kernel)
theorem D_900_442 : decode lawI.2.2.1 442 = .ok (.aload_n 0, 1) := dzq_42 (by decide +kernel)
theorem D_900_443 : decode lawI.2.2.1 443 = .ok (.iload_n 3, 1) := dzq_29 (by decide +kernel)
theorem D_900_444 : decode lawI.2.2.1 444 = .ok (.iconst 1, 1) := dzq_4 (by decide +kernel)
theorem D_900_445 : decode lawI.2.2.1 445 = .ok (.iadd, 1) := dzq_96 (by decide +kernel)
theorem D_900_446 : decode lawI.2.2.1 446 = .ok (.iaload, 1) := dzq_46 (by decide +kernel)
theorem D_900_447 : decode lawI.2.2.1 447 = .ok (.aload_n 0, 1) := dzq_42 (by decide +kernel)
theorem D_900_448 : decode lawI.2.2.1 448 = .ok (.iload_n 3, 1) := dzq_29 (by decide +kernel)
theorem D_900_449 : decode lawI.2.2.1 449 = .ok (.iconst 2, 1) := dzq_5 (by decide +kernel)
theorem D_900_450 : decode lawI.2.2.1 450 = .ok (.iadd, 1) := dzq_96 (by decide +kernel)
theorem D_900_451 : decode lawI.2.2.1 451 = .ok (.iaload, 1) := dzq_46 (by decide +kernel)
theorem D_900_452 : decode lawI.2.2.1 452 = .ok (.invokevirtual 55, 3) := dzq_182 (by decide +kernel)
theorem D_900_455 : decode lawI.2.2.1 455 = .ok (.pop, 1) := dzq_87 (by decide +kernel)
theorem D_900_456 : decode lawI.2.2.1 456 = .ok (.aload_n 2, 1) := dzq_44 (by decide +kernel)
theorem D_900_457 : decode lawI.2.2.1 457 = .ok (.aload_n 0, 1) := dzq_42 (by decide +kernel)
theorem D_900_458 : decode lawI.2.2.1 458 = .ok (.iload_n 3, 1) := dzq_29 (by decide +kernel)
theorem D_900_459 : decode lawI.2.2.1 459 = .ok (.iconst 1, 1) := dzq_4 (by decide +kernel)
theorem D_900_460 : decode lawI.2.2.1 460 = .ok (.iadd, 1) := dzq_96 (by decide +kernel)
theorem D_900_461 : decode lawI.2.2.1 461 = .ok (.iaload, 1) := dzq_46 (by decide +kernel)
theorem D_900_462 : decode lawI.2.2.1 462 = .ok (.aload_n 0, 1) := dzq_42 (by decide +kernel)
theorem D_900_463 : decode lawI.2.2.1 463 = .ok (.iload_n 3, 1) := dzq_29 (by decide +kernel)
theorem D_900_464 : decode lawI.2.2.1 464 = .ok (.iconst 2, 1) := dzq_5 (by decide +kernel)
theorem D_900_465 : decode lawI.2.2.1 465 = .ok (.iadd, 1) := dzq_96 (by decide +kernel)
theorem D_900_466 : decode lawI.2.2.1 466 = .ok (.iaload, 1) := dzq_46 (by decide +kernel)
theorem D_900_467 : decode lawI.2.2.1 467 = .ok (.invokevirtual 58, 3) := dzq_182 (by decide +kernel)
theorem D_900_470 : decode lawI.2.2.1 470 = .ok (.pop, 1) := dzq_87 (by decide +kernel)
theorem D_900_471 : decode lawI.2.2.1 471 = .ok (.goto 293, 3) := dzq_167 (by decide +kernel)
theorem D_900_474 : decode lawI.2.2.1 474 = .ok (.aload_n 1, 1) := dzq_43 (by decide +kernel)
theorem D_900_475 : decode lawI.2.2.1 475 = .ok (.aload_n 0, 1) := dzq_42 (by decide +kernel)
theorem D_900_476 : decode lawI.2.2.1 476 = .ok (.iload_n 3, 1) := dzq_29 (by decide +kernel)
theorem D_900_477 : decode lawI.2.2.1 477 = .ok (.iconst 1, 1) := dzq_4 (by decide +kernel)
theorem D_900_478 : decode lawI.2.2.1 478 = .ok (.iadd, 1) := dzq_96 (by decide +kernel)
theorem D_900_479 : decode lawI.2.2.1 479 = .ok (.iaload, 1) := dzq_46 (by decide +kernel)
theorem D_900_480 : decode lawI.2.2.1 480 = .ok (.aload_n 0, 1) := dzq_42 (by decide +kernel)
theorem D_900_481 : decode lawI.2.2.1 481 = .ok (.iload_n 3, 1) := dzq_29 (by decide +kernel)
theorem D_900_482 : decode lawI.2.2.1 482 = .ok (.iconst 2, 1) := dzq_5 (by decide +kernel)
theorem D_900_483 : decode lawI.2.2.1 483 = .ok (.iadd, 1) := dzq_96 (by decide +kernel)
theorem D_900_484 : decode lawI.2.2.1 484 = .ok (.iaload, 1) := dzq_46 (by decide +kernel)
theorem D_900_485 : decode lawI.2.2.1 485 = .ok (.invokevirtual 59, 3) := dzq_182 (by decide +kernel)
theorem D_900_488 : decode lawI.2.2.1 488 = .ok (.pop, 1) := dzq_87 (by decide +kernel)
theorem D_900_489 : decode lawI.2.2.1 489 = .ok (.aload_n 2, 1) := dzq_44 (by decide +kernel)
theorem D_900_490 : decode lawI.2.2.1 490 = .ok (.aload_n 0, 1) := dzq_42 (by decide +kernel)
theorem D_900_491 : decode lawI.2.2.1 491 = .ok (.iload_n 3, 1) := dzq_29 (by decide +kernel)
theorem D_900_492 : decode lawI.2.2.1 492 = .ok (.iconst 1, 1) := dzq_4 (by decide +kernel)
theorem D_900_493 : decode lawI.2.2.1 493 = .ok (.iadd, 1) := dzq_96 (by decide +kernel)
theorem D_900_494 : decode lawI.2.2.1 494 = .ok (.iaload, 1) := dzq_46 (by decide +kernel)
theorem D_900_495 : decode lawI.2.2.1 495 = .ok (.aload_n 0, 1) := dzq_42 (by decide +kernel)
theorem D_900_496 : decode lawI.2.2.1 496 = .ok (.iload_n 3, 1) := dzq_29 (by decide +kernel)
theorem D_900_497 : decode lawI.2.2.1 497 = .ok (.iconst 2, 1) := dzq_5 (by decide +kernel)
theorem D_900_498 : decode lawI.2.2.1 498 = .ok (.iadd, 1) := dzq_96 (by decide +kernel)
theorem D_900_499 : decode lawI.2.2.1 499 = .ok (.iaload, 1) := dzq_46 (by decide +kernel)
theorem D_900_500 : decode lawI.2.2.1 500 = .ok (.invokevirtual 62, 3) := dzq_182 (by decide +kernel)
theorem D_900_503 : decode lawI.2.2.1 503 = .ok (.pop, 1) := dzq_87 (by decide +kernel)
theorem D_900_504 : decode lawI.2.2.1 504 = .ok (.goto 260, 3) := dzq_167 (by decide +kernel)
theorem D_900_507 : decode lawI.2.2.1 507 = .ok (.aload_n 1, 1) := dzq_43 (by decide +kernel)
theorem D_900_508 : decode lawI.2.2.1 508 = .ok (.aload_n 0, 1) := dzq_42 (by decide +kernel)
theorem D_900_509 : decode lawI.2.2.1 509 = .ok (.iload_n 3, 1) := dzq_29 (by decide +kernel)
theorem D_900_510 : decode lawI.2.2.1 510 = .ok (.iconst 1, 1) := dzq_4 (by decide +kernel)
theorem D_900_511 : decode lawI.2.2.1 511 = .ok (.iadd, 1) := dzq_96 (by decide +kernel)
theorem D_900_512 : decode lawI.2.2.1 512 = .ok (.iaload, 1) := dzq_46 (by decide +kernel)
theorem D_900_513 : decode lawI.2.2.1 513 = .ok (.aload_n 0, 1) := dzq_42 (by decide +kernel)
theorem D_900_514 : decode lawI.2.2.1 514 = .ok (.iload_n 3, 1) := dzq_29 (by decide +kernel)
theorem D_900_515 : decode lawI.2.2.1 515 = .ok (.iconst 2, 1) := dzq_5 (by decide +kernel)
theorem D_900_516 : decode lawI.2.2.1 516 = .ok (.iadd, 1) := dzq_96 (by decide +kernel)
theorem D_900_517 : decode lawI.2.2.1 517 = .ok (.iaload, 1) := dzq_46 (by decide +kernel)
theorem D_900_518 : decode lawI.2.2.1 518 = .ok (.invokevirtual 63, 3) := dzq_182 (by decide +kernel)
theorem D_900_521 : decode lawI.2.2.1 521 = .ok (.pop, 1) := dzq_87 (by decide +kernel)
theorem D_900_522 : decode lawI.2.2.1 522 = .ok (.aload_n 2, 1) := dzq_44 (by decide +kernel)
theorem D_900_523 : decode lawI.2.2.1 523 = .ok (.aload_n 0, 1) := dzq_42 (by decide +kernel)
theorem D_900_524 : decode lawI.2.2.1 524 = .ok (.iload_n 3, 1) := dzq_29 (by decide +kernel)
theorem D_900_525 : decode lawI.2.2.1 525 = .ok (.iconst 1, 1) := dzq_4 (by decide +kernel)
theorem D_900_526 : decode lawI.2.2.1 526 = .ok (.iadd, 1) := dzq_96 (by decide +kernel)
theorem D_900_527 : decode lawI.2.2.1 527 = .ok (.iaload, 1) := dzq_46 (by decide +kernel)
theorem D_900_528 : decode lawI.2.2.1 528 = .ok (.aload_n 0, 1) := dzq_42 (by decide +kernel)
theorem D_900_529 : decode lawI.2.2.1 529 = .ok (.iload_n 3, 1) := dzq_29 (by decide +kernel)
theorem D_900_530 : decode lawI.2.2.1 530 = .ok (.iconst 2, 1) := dzq_5 (by decide +kernel)
theorem D_900_531 : decode lawI.2.2.1 531 = .ok (.iadd, 1) := dzq_96 (by decide +kernel)
theorem D_900_532 : decode lawI.2.2.1 532 = .ok (.iaload, 1) := dzq_46 (by decide +kernel)
theorem D_900_533 : decode lawI.2.2.1 533 = .ok (.invokevirtual 66, 3) := dzq_182 (by decide +kernel)
theorem D_900_536 : decode lawI.2.2.1 536 = .ok (.pop, 1) := dzq_87 (by decide +kernel)
theorem D_900_537 : decode lawI.2.2.1 537 = .ok (.goto 227, 3) := dzq_167 (by decide +kernel)
theorem D_900_540 : decode lawI.2.2.1 540 = .ok (.aload_n 1, 1) := dzq_43 (by decide +kernel)
theorem D_900_541 : decode lawI.2.2.1 541 = .ok (.aload_n 0, 1) := dzq_42 (by decide +kernel)
theorem D_900_542 : decode lawI.2.2.1 542 = .ok (.iload_n 3, 1) := dzq_29 (by decide +kernel)
theorem D_900_543 : decode lawI.2.2.1 543 = .ok (.iconst 1, 1) := dzq_4 (by decide +kernel)
theorem D_900_544 : decode lawI.2.2.1 544 = .ok (.iadd, 1) := dzq_96 (by decide +kernel)
theorem D_900_545 : decode lawI.2.2.1 545 = .ok (.iaload, 1) := dzq_46 (by decide +kernel)
theorem D_900_546 : decode lawI.2.2.1 546 = .ok (.aload_n 0, 1) := dzq_42 (by decide +kernel)
theorem D_900_547 : decode lawI.2.2.1 547 = .ok (.iload_n 3, 1) := dzq_29 (by decide +kernel)
theorem D_900_548 : decode lawI.2.2.1 548 = .ok (.iconst 2, 1) := dzq_5 (by decide +kernel)
theorem D_900_549 : decode lawI.2.2.1 549 = .ok (.iadd, 1) := dzq_96 (by decide +kernel)
theorem D_900_550 : decode lawI.2.2.1 550 = .ok (.iaload, 1) := dzq_46 (by decide +kernel)
theorem D_900_551 : decode lawI.2.2.1 551 = .ok (.invokevirtual 67, 3) := dzq_182 (by decide +kernel)
theorem D_900_554 : decode lawI.2.2.1 554 = .ok (.pop, 1) := dzq_87 (by decide +kernel)
theorem D_900_555 : decode lawI.2.2.1 555 = .ok (.aload_n 2, 1) := dzq_44 (by decide +kernel)
theorem D_900_556 : decode lawI.2.2.1 556 = .ok (.aload_n 0, 1) := dzq_42 (by decide +kernel)
theorem D_900_557 : decode lawI.2.2.1 557 = .ok (.iload_n 3, 1) := dzq_29 (by decide +kernel)
theorem D_900_558 : decode lawI.2.2.1 558 = .ok (.iconst 1, 1) := dzq_4 (by decide +kernel)
theorem D_900_559 : decode lawI.2.2.1 559 = .ok (.iadd, 1) := dzq_96 (by decide +kernel)
theorem D_900_560 : decode lawI.2.2.1 560 = .ok (.iaload, 1) := dzq_46 (by decide +kernel)
theorem D_900_561 : decode lawI.2.2.1 561 = .ok (.aload_n 0, 1) := dzq_42 (by decide +kernel)
theorem D_900_562 : decode lawI.2.2.1 562 = .ok (.iload_n 3, 1) := dzq_29 (by decide +kernel)
theorem D_900_563 : decode lawI.2.2.1 563 = .ok (.iconst 2, 1) := dzq_5 (by decide +kernel)
theorem D_900_564 : decode lawI.2.2.1 564 = .ok (.iadd, 1) := dzq_96 (by decide +kernel)
theorem D_900_565 : decode lawI.2.2.1 565 = .ok (.iaload, 1) := dzq_46 (by decide +kernel)
theorem D_900_566 : decode lawI.2.2.1 566 = .ok (.invokevirtual 70, 3) := dzq_182 (by decide +kernel)
theorem D_900_569 : decode lawI.2.2.1 569 = .ok (.pop, 1) := dzq_87 (by decide +kernel)
theorem D_900_570 : decode lawI.2.2.1 570 = .ok (.goto 194, 3) := dzq_167 (by decide +kernel)
theorem D_900_573 : decode lawI.2.2.1 573 = .ok (.aload_n 1, 1) := dzq_43 (by decide +kernel)
theorem D_900_574 : decode lawI.2.2.1 574 = .ok (.aload_n 0, 1) := dzq_42 (by decide +kernel)
theorem D_900_575 : decode lawI.2.2.1 575 = .ok (.iload_n 3, 1) := dzq_29 (by decide +kernel)
theorem D_900_576 : decode lawI.2.2.1 576 = .ok (.iconst 1, 1) := dzq_4 (by decide +kernel)
theorem D_900_577 : decode lawI.2.2.1 577 = .ok (.iadd, 1) := dzq_96 (by decide +kernel)
theorem D_900_578 : decode lawI.2.2.1 578 = .ok (.iaload, 1) := dzq_46 (by decide +kernel)
theorem D_900_579 : decode lawI.2.2.1 579 = .ok (.aload_n 0, 1) := dzq_42 (by decide +kernel)
theorem D_900_580 : decode lawI.2.2.1 580 = .ok (.iload_n 3, 1) := dzq_29 (by decide +kernel)
theorem D_900_581 : decode lawI.2.2.1 581 = .ok (.iconst 2, 1) := dzq_5 (by decide +kernel)
theorem D_900_582 : decode lawI.2.2.1 582 = .ok (.iadd, 1) := dzq_96 (by decide +kernel)
theorem D_900_583 : decode lawI.2.2.1 583 = .ok (.iaload, 1) := dzq_46 (by decide +kernel)
theorem D_900_584 : decode lawI.2.2.1 584 = .ok (.invokevirtual 71, 3) := dzq_182 (by decide +kernel)
theorem D_900_587 : decode lawI.2.2.1 587 = .ok (.pop, 1) := dzq_87 (by decide +kernel)
theorem D_900_588 : decode lawI.2.2.1 588 = .ok (.aload_n 2, 1) := dzq_44 (by decide +kernel)
theorem D_900_589 : decode lawI.2.2.1 589 = .ok (.aload_n 0, 1) := dzq_42 (by decide +kernel)
theorem D_900_590 : decode lawI.2.2.1 590 = .ok (.iload_n 3, 1) := dzq_29 (by decide +kernel)
theorem D_900_591 : decode lawI.2.2.1 591 = .ok (.iconst 1, 1) := dzq_4 (by decide +kernel)
theorem D_900_592 : decode lawI.2.2.1 592 = .ok (.iadd, 1) := dzq_96 (by decide +kernel)
theorem D_900_593 : decode lawI.2.2.1 593 = .ok (.iaload, 1) := dzq_46 (by decide +kernel)
theorem D_900_594 : decode lawI.2.2.1 594 = .ok (.aload_n 0, 1) := dzq_42 (by decide +kernel)
theorem D_900_595 : decode lawI.2.2.1 595 = .ok (.iload_n 3, 1) := dzq_29 (by decide +kernel)
theorem D_900_596 : decode lawI.2.2.1 596 = .ok (.iconst 2, 1) := dzq_5 (by decide +kernel)
theorem D_900_597 : decode lawI.2.2.1 597 = .ok (.iadd, 1) := dzq_96 (by decide +kernel)
theorem D_900_598 : decode lawI.2.2.1 598 = .ok (.iaload, 1) := dzq_46 (by decide +kernel)
theorem D_900_599 : decode lawI.2.2.1 599 = .ok (.invokevirtual 74, 3) := dzq_182 (by decide +kernel)
theorem D_900_602 : decode lawI.2.2.1 602 = .ok (.pop, 1) := dzq_87 (by decide +kernel)
theorem D_900_603 : decode lawI.2.2.1 603 = .ok (.goto 161, 3) := dzq_167 (by decide +kernel)
theorem D_900_606 : decode lawI.2.2.1 606 = .ok (.aload_n 1, 1) := dzq_43 (by decide +kernel)
theorem D_900_607 : decode lawI.2.2.1 607 = .ok (.aload_n 0, 1) := dzq_42 (by decide +kernel)
theorem D_900_608 : decode lawI.2.2.1 608 = .ok (.iload_n 3, 1) := dzq_29 (by decide +kernel)
theorem D_900_609 : decode lawI.2.2.1 609 = .ok (.iconst 1, 1) := dzq_4 (by decide +kernel)
theorem D_900_610 : decode lawI.2.2.1 610 = .ok (.iadd, 1) := dzq_96 (by decide +kernel)
theorem D_900_611 : decode lawI.2.2.1 611 = .ok (.iaload, 1) := dzq_46 (by decide +kernel)
theorem D_900_612 : decode lawI.2.2.1 612 = .ok (.aload_n 0, 1) := dzq_42 (by decide +kernel)
theorem D_900_613 : decode lawI.2.2.1 613 = .ok (.iload_n 3, 1) := dzq_29 (by decide +kernel)
theorem D_900_614 : decode lawI.2.2.1 614 = .ok (.iconst 2, 1) := dzq_5 (by decide +kernel)
theorem D_900_615 : decode lawI.2.2.1 615 = .ok (.iadd, 1) := dzq_96 (by decide +kernel)
theorem D_900_616 : decode lawI.2.2.1 616 = .ok (.iaload, 1) := dzq_46 (by decide +kernel)
theorem D_900_617 : decode lawI.2.2.1 617 = .ok (.invokevirtual 75, 3) := dzq_182 (by decide +kernel)
theorem D_900_620 : decode lawI.2.2.1 620 = .ok (.pop, 1) := dzq_87 (by decide +kernel)
theorem D_900_621 : decode lawI.2.2.1 621 = .ok (.aload_n 2, 1) := dzq_44 (by decide +kernel)
theorem D_900_622 : decode lawI.2.2.1 622 = .ok (.aload_n 0, 1) := dzq_42 (by decide +kernel)
theorem D_900_623 : decode lawI.2.2.1 623 = .ok (.iload_n 3, 1) := dzq_29 (by decide +kernel)
theorem D_900_624 : decode lawI.2.2.1 624 = .ok (.iconst 1, 1) := dzq_4 (by decide +kernel)
theorem D_900_625 : decode lawI.2.2.1 625 = .ok (.iadd, 1) := dzq_96 (by decide +kernel)
theorem D_900_626 : decode lawI.2.2.1 626 = .ok (.iaload, 1) := dzq_46 (by decide +kernel)
theorem D_900_627 : decode lawI.2.2.1 627 = .ok (.aload_n 0, 1) := dzq_42 (by decide +kernel)
theorem D_900_628 : decode lawI.2.2.1 628 = .ok (.iload_n 3, 1) := dzq_29 (by decide +kernel)
theorem D_900_629 : decode lawI.2.2.1 629 = .ok (.iconst 2, 1) := dzq_5 (by decide +kernel)
theorem D_900_630 : decode lawI.2.2.1 630 = .ok (.iadd, 1) := dzq_96 (by decide +kernel)
theorem D_900_631 : decode lawI.2.2.1 631 = .ok (.iaload, 1) := dzq_46 (by decide +kernel)
theorem D_900_632 : decode lawI.2.2.1 632 = .ok (.invokevirtual 78, 3) := dzq_182 (by decide +kernel)
theorem D_900_635 : decode lawI.2.2.1 635 = .ok (.pop, 1) := dzq_87 (by decide +kernel)
theorem D_900_636 : decode lawI.2.2.1 636 = .ok (.goto 128, 3) := dzq_167 (by decide +kernel)
theorem D_900_639 : decode lawI.2.2.1 639 = .ok (.aload_n 1, 1) := dzq_43 (by decide +kernel)
theorem D_900_640 : decode lawI.2.2.1 640 = .ok (.aload_n 0, 1) := dzq_42 (by decide +kernel)
theorem D_900_641 : decode lawI.2.2.1 641 = .ok (.iload_n 3, 1) := dzq_29 (by decide +kernel)
theorem D_900_642 : decode lawI.2.2.1 642 = .ok (.iconst 1, 1) := dzq_4 (by decide +kernel)
theorem D_900_643 : decode lawI.2.2.1 643 = .ok (.iadd, 1) := dzq_96 (by decide +kernel)
theorem D_900_644 : decode lawI.2.2.1 644 = .ok (.iaload, 1) := dzq_46 (by decide +kernel)
theorem D_900_645 : decode lawI.2.2.1 645 = .ok (.aload_n 0, 1) := dzq_42 (by decide +kernel)
theorem D_900_646 : decode lawI.2.2.1 646 = .ok (.iload_n 3, 1) := dzq_29 (by decide +kernel)
theorem D_900_647 : decode lawI.2.2.1 647 = .ok (.iconst 2, 1) := dzq_5 (by decide +kernel)
theorem D_900_648 : decode lawI.2.2.1 648 = .ok (.iadd, 1) := dzq_96 (by decide +kernel)
theorem D_900_649 : decode lawI.2.2.1 649 = .ok (.iaload, 1) := dzq_46 (by decide +kernel)
theorem D_900_650 : decode lawI.2.2.1 650 = .ok (.invokevirtual 79, 3) := dzq_182 (by decide +kernel)
theorem D_900_653 : decode lawI.2.2.1 653 = .ok (.pop, 1) := dzq_87 (by decide +kernel)
theorem D_900_654 : decode lawI.2.2.1 654 = .ok (.aload_n 2, 1) := dzq_44 (by decide +kernel)
theorem D_900_655 : decode lawI.2.2.1 655 = .ok (.aload_n 0, 1) := dzq_42 (by decide +kernel)
theorem D_900_656 : decode lawI.2.2.1 656 = .ok (.iload_n 3, 1) := dzq_29 (by decide +kernel)
theorem D_900_657 : decode lawI.2.2.1 657 = .ok (.iconst 1, 1) := dzq_4 (by decide +kernel)
theorem D_900_658 : decode lawI.2.2.1 658 = .ok (.iadd, 1) := dzq_96 (by decide +kernel)
theorem D_900_659 : decode lawI.2.2.1 659 = .ok (.iaload, 1) := dzq_46 (by decide +kernel)
theorem D_900_660 : decode lawI.2.2.1 660 = .ok (.aload_n 0, 1) := dzq_42 (by decide +kernel)
theorem D_900_661 : decode lawI.2.2.1 661 = .ok (.iload_n 3, 1) := dzq_29 (by decide +kernel)
theorem D_900_662 : decode lawI.2.2.1 662 = .ok (.iconst 2, 1) := dzq_5 (by decide +kernel)
theorem D_900_663 : decode lawI.2.2.1 663 = .ok (.iadd, 1) := dzq_96 (by decide +kernel)
theorem D_900_664 : decode lawI.2.2.1 664 = .ok (.iaload, 1) := dzq_46 (by decide +kernel)
theorem D_900_665 : decode lawI.2.2.1 665 = .ok (.invokevirtual 82, 3) := dzq_182 (by decide +kernel)
theorem D_900_668 : decode lawI.2.2.1 668 = .ok (.pop, 1) := dzq_87 (by decide +kernel)
theorem D_900_669 : decode lawI.2.2.1 669 = .ok (.goto 95, 3) := dzq_167 (by decide +kernel)
theorem D_900_672 : decode lawI.2.2.1 672 = .ok (.aload_n 1, 1) := dzq_43 (by decide +kernel)
theorem D_900_673 : decode lawI.2.2.1 673 = .ok (.aload_n 0, 1) := dzq_42 (by decide +kernel)
theorem D_900_674 : decode lawI.2.2.1 674 = .ok (.iload_n 3, 1) := dzq_29 (by decide +kernel)
theorem D_900_675 : decode lawI.2.2.1 675 = .ok (.iconst 1, 1) := dzq_4 (by decide +kernel)
theorem D_900_676 : decode lawI.2.2.1 676 = .ok (.iadd, 1) := dzq_96 (by decide +kernel)
theorem D_900_677 : decode lawI.2.2.1 677 = .ok (.iaload, 1) := dzq_46 (by decide +kernel)
theorem D_900_678 : decode lawI.2.2.1 678 = .ok (.invokevirtual 83, 3) := dzq_182 (by decide +kernel)
theorem D_900_681 : decode lawI.2.2.1 681 = .ok (.pop, 1) := dzq_87 (by decide +kernel)
theorem D_900_682 : decode lawI.2.2.1 682 = .ok (.aload_n 2, 1) := dzq_44 (by decide +kernel)
theorem D_900_683 : decode lawI.2.2.1 683 = .ok (.aload_n 0, 1) := dzq_42 (by decide +kernel)
theorem D_900_684 : decode lawI.2.2.1 684 = .ok (.iload_n 3, 1) := dzq_29 (by decide +kernel)
theorem D_900_685 : decode lawI.2.2.1 685 = .ok (.iconst 1, 1) := dzq_4 (by decide +kernel)
theorem D_900_686 : decode lawI.2.2.1 686 = .ok (.iadd, 1) := dzq_96 (by decide +kernel)
theorem D_900_687 : decode lawI.2.2.1 687 = .ok (.iaload, 1) := dzq_46 (by decide +kernel)
theorem D_900_688 : decode lawI.2.2.1 688 = .ok (.invokevirtual 86, 3) := dzq_182 (by decide +kernel)
theorem D_900_691 : decode lawI.2.2.1 691 = .ok (.pop, 1) := dzq_87 (by decide +kernel)
theorem D_900_692 : decode lawI.2.2.1 692 = .ok (.goto 72, 3) := dzq_167 (by decide +kernel)
theorem D_900_695 : decode lawI.2.2.1 695 = .ok (.aload_n 1, 1) := dzq_43 (by decide +kernel)
theorem D_900_696 : decode lawI.2.2.1 696 = .ok (.invokevirtual 87, 3) := dzq_182 (by decide +kernel)
theorem D_900_699 : decode lawI.2.2.1 699 = .ok (.pop, 1) := dzq_87 (by decide +kernel)
theorem D_900_700 : decode lawI.2.2.1 700 = .ok (.aload_n 2, 1) := dzq_44 (by decide +kernel)
theorem D_900_701 : decode lawI.2.2.1 701 = .ok (.invokevirtual 91, 3) := dzq_182 (by decide +kernel)
theorem D_900_704 : decode lawI.2.2.1 704 = .ok (.pop, 1) := dzq_87 (by decide +kernel)
theorem D_900_705 : decode lawI.2.2.1 705 = .ok (.goto 59, 3) := dzq_167 (by decide +kernel)
theorem D_900_708 : decode lawI.2.2.1 708 = .ok (.aload_n 1, 1) := dzq_43 (by decide +kernel)
theorem D_900_709 : decode lawI.2.2.1 709 = .ok (.aload_n 0, 1) := dzq_42 (by decide +kernel)
theorem D_900_710 : decode lawI.2.2.1 710 = .ok (.iload_n 3, 1) := dzq_29 (by decide +kernel)
theorem D_900_711 : decode lawI.2.2.1 711 = .ok (.iconst 1, 1) := dzq_4 (by decide +kernel)
theorem D_900_712 : decode lawI.2.2.1 712 = .ok (.iadd, 1) := dzq_96 (by decide +kernel)
theorem D_900_713 : decode lawI.2.2.1 713 = .ok (.iaload, 1) := dzq_46 (by decide +kernel)
theorem D_900_714 : decode lawI.2.2.1 714 = .ok (.invokevirtual 92, 3) := dzq_182 (by decide +kernel)
theorem D_900_717 : decode lawI.2.2.1 717 = .ok (.pop, 1) := dzq_87 (by decide +kernel)
theorem D_900_718 : decode lawI.2.2.1 718 = .ok (.aload_n 2, 1) := dzq_44 (by decide +kernel)
theorem D_900_719 : decode lawI.2.2.1 719 = .ok (.aload_n 0, 1) := dzq_42 (by decide +kernel)
theorem D_900_720 : decode lawI.2.2.1 720 = .ok (.iload_n 3, 1) := dzq_29 (by decide +kernel)
theorem D_900_721 : decode lawI.2.2.1 721 = .ok (.iconst 1, 1) := dzq_4 (by decide +kernel)
theorem D_900_722 : decode lawI.2.2.1 722 = .ok (.iadd, 1) := dzq_96 (by decide +kernel)
theorem D_900_723 : decode lawI.2.2.1 723 = .ok (.iaload, 1) := dzq_46 (by decide +kernel)
theorem D_900_724 : decode lawI.2.2.1 724 = .ok (.invokevirtual 95, 3) := dzq_182 (by decide +kernel)
theorem D_900_727 : decode lawI.2.2.1 727 = .ok (.pop, 1) := dzq_87 (by decide +kernel)
theorem D_900_728 : decode lawI.2.2.1 728 = .ok (.goto 36, 3) := dzq_167 (by decide +kernel)
theorem D_900_731 : decode lawI.2.2.1 731 = .ok (.aload_n 1, 1) := dzq_43 (by decide +kernel)
theorem D_900_732 : decode lawI.2.2.1 732 = .ok (.aload_n 0, 1) := dzq_42 (by decide +kernel)
theorem D_900_733 : decode lawI.2.2.1 733 = .ok (.iload_n 3, 1) := dzq_29 (by decide +kernel)
theorem D_900_734 : decode lawI.2.2.1 734 = .ok (.iconst 1, 1) := dzq_4 (by decide +kernel)
theorem D_900_735 : decode lawI.2.2.1 735 = .ok (.iadd, 1) := dzq_96 (by decide +kernel)
theorem D_900_736 : decode lawI.2.2.1 736 = .ok (.iaload, 1) := dzq_46 (by decide +kernel)
theorem D_900_737 : decode lawI.2.2.1 737 = .ok (.aload_n 0, 1) := dzq_42 (by decide +kernel)
theorem D_900_738 : decode lawI.2.2.1 738 = .ok (.iload_n 3, 1) := dzq_29 (by decide +kernel)
theorem D_900_739 : decode lawI.2.2.1 739 = .ok (.iconst 2, 1) := dzq_5 (by decide +kernel)
theorem D_900_740 : decode lawI.2.2.1 740 = .ok (.iadd, 1) := dzq_96 (by decide +kernel)
theorem D_900_741 : decode lawI.2.2.1 741 = .ok (.iaload, 1) := dzq_46 (by decide +kernel)
theorem D_900_742 : decode lawI.2.2.1 742 = .ok (.invokevirtual 96, 3) := dzq_182 (by decide +kernel)
theorem D_900_745 : decode lawI.2.2.1 745 = .ok (.aload_n 2, 1) := dzq_44 (by decide +kernel)
theorem D_900_746 : decode lawI.2.2.1 746 = .ok (.aload_n 0, 1) := dzq_42 (by decide +kernel)
theorem D_900_747 : decode lawI.2.2.1 747 = .ok (.iload_n 3, 1) := dzq_29 (by decide +kernel)
theorem D_900_748 : decode lawI.2.2.1 748 = .ok (.iconst 1, 1) := dzq_4 (by decide +kernel)
theorem D_900_749 : decode lawI.2.2.1 749 = .ok (.iadd, 1) := dzq_96 (by decide +kernel)
theorem D_900_750 : decode lawI.2.2.1 750 = .ok (.iaload, 1) := dzq_46 (by decide +kernel)
theorem D_900_751 : decode lawI.2.2.1 751 = .ok (.aload_n 0, 1) := dzq_42 (by decide +kernel)
theorem D_900_752 : decode lawI.2.2.1 752 = .ok (.iload_n 3, 1) := dzq_29 (by decide +kernel)
theorem D_900_753 : decode lawI.2.2.1 753 = .ok (.iconst 2, 1) := dzq_5 (by decide +kernel)
theorem D_900_754 : decode lawI.2.2.1 754 = .ok (.iadd, 1) := dzq_96 (by decide +kernel)
theorem D_900_755 : decode lawI.2.2.1 755 = .ok (.iaload, 1) := dzq_46 (by decide +kernel)
theorem D_900_756 : decode lawI.2.2.1 756 = .ok (.invokevirtual 99, 3) := dzq_182 (by decide +kernel)
theorem D_900_759 : decode lawI.2.2.1 759 = .ok (.if_icmp .eq 5, 3) := dzq_159 (by decide +kernel)
theorem D_900_762 : decode lawI.2.2.1 762 = .ok (.iconst 0, 1) := dzq_3 (by decide +kernel)
theorem D_900_763 : decode lawI.2.2.1 763 = .ok (.ireturn, 1) := dzq_172 (by decide +kernel)
theorem D_900_764 : decode lawI.2.2.1 764 = .ok (.iinc 3 6, 3) := dzq_132 (by decide +kernel)
theorem D_900_767 : decode lawI.2.2.1 767 = .ok (.goto (-749), 3) := dzq_167 (by decide +kernel)
theorem D_900_770 : decode lawI.2.2.1 770 = .ok (.iconst 1, 1) := dzq_4 (by decide +kernel)
theorem D_900_771 : decode lawI.2.2.1 771 = .ok (.ireturn, 1) := dzq_172 (by decide +kernel)
def P_900_764 (X : mjX) (d C S kc ks : Nat) (k : Nat → Nat → Int32 → mjH → mjU) : Prop := ∀ (l1 : Nat) (l2 : Nat) (l3 : Int32) (hp : mjH) (q : Option Value × mjH), k l1 l2 l3 hp = some q → mjG X d C S lawI (mjEq q) 764 [some (.ref 1000020), some (.ref l1), some (.ref l2), some (.int l3)] [] hp kc ks
def P_900_233 (X : mjX) (d C S kc ks : Nat) (k : Nat → Nat → Int32 → Nat → Int32 → Int32 → mjH → mjU) : Prop := ∀ (l1 : Nat) (l2 : Nat) (l3 : Int32) (s0 : Nat) (s1 : Int32) (s2 : Int32) (hp : mjH) (q : Option Value × mjH), k l1 l2 l3 s0 s1 s2 hp = some q → mjG X d C S lawI (mjEq q) 233 [some (.ref 1000020), some (.ref l1), some (.ref l2), some (.int l3)] [.int s2, .int s1, .ref s0] hp kc ks
def P_900_210 (X : mjX) (d C S kc ks : Nat) (k : Nat → Nat → Int32 → Nat → Int32 → Int32 → mjH → mjU) : Prop := ∀ (l1 : Nat) (l2 : Nat) (l3 : Int32) (s0 : Nat) (s1 : Int32) (s2 : Int32) (hp : mjH) (q : Option Value × mjH), k l1 l2 l3 s0 s1 s2 hp = some q → mjG X d C S lawI (mjEq q) 210 [some (.ref 1000020), some (.ref l1), some (.ref l2), some (.int l3)] [.int s2, .int s1, .ref s0] hp kc ks
def P_900_18 (X : mjX) (d C S kc ks : Nat) (k : Nat → Nat → Int32 → mjH → mjU) : Prop := ∀ (l1 : Nat) (l2 : Nat) (l3 : Int32) (hp : mjH) (q : Option Value × mjH), k l1 l2 l3 hp = some q → mjG X d C S lawI (mjEq q) 18 [some (.ref 1000020), some (.ref l1), some (.ref l2), some (.int l3)] [] hp kc ks
noncomputable def b_900_764 (R : mjR) (L : Nat) (xs : Nat → Int32) (k18 : Nat → Nat → Int32 → mjH → mjU) (l1 : Nat) (l2 : Nat) (l3 : Int32) (hp : mjH) : mjU := k18 l1 l2 (l3 + (6 : Int32)) hp
theorem t_900_764 {L : Nat} {xs : Nat → Int32} {d C S kc ks : Nat} {R : mjR} (hR : mjC R d) (h1 : kc ≤ C) (h2 : ks ≤ S) {k18 : Nat → Nat → Int32 → mjH → mjU} (hk18 : P_900_18 (mjXs L xs) (d + 1) C S kc ks k18) : P_900_764 (mjXs L xs) (d + 1) C S kc ks (b_900_764 R L xs k18) := by
  intro l1 l2 l3 hp q h
  unfold b_900_764 at h
  refine mjq_iinc (x := l3) (c := (6 : Int32)) (lo' := [some (.ref 1000020), some (.ref l1), some (.ref l2), some (.int (l3 + (6 : Int32)))]) D_900_764 rfl (Nat.le_of_ble_eq_true rfl) rfl rfl ?_
  refine mjr_goto (tgt := 18) D_900_767 rfl ?_
  exact hk18 _ _ _ _ _ h
noncomputable def b_900_233 (R : mjR) (L : Nat) (xs : Nat → Int32) (k18 : Nat → Nat → Int32 → mjH → mjU) (l1 : Nat) (l2 : Nat) (l3 : Int32) (s0 : Nat) (s1 : Int32) (s2 : Int32) (hp : mjH) : mjU := rV hp s0 12 (bI (R 260 [.ref s0, .int s1, .int s2] hp) (fun v1 hp2 => b_900_764 R L xs k18 l1 l2 l3 hp2))
theorem t_900_233 {L : Nat} {xs : Nat → Int32} {d C S kc ks : Nat} {R : mjR} (hR : mjC R d) (h1 : kc ≤ C) (h2 : ks ≤ S) {k18 : Nat → Nat → Int32 → mjH → mjU} (hk18 : P_900_18 (mjXs L xs) (d + 1) C S kc ks k18) : P_900_233 (mjXs L xs) (d + 1) C S kc ks (b_900_233 R L xs k18) := by
  intro l1 l2 l3 s0 s1 s2 hp q h
  unfold b_900_233 at h
  refine mjq_vI (As := [.int s1, .int s2]) (rest := []) D_900_233 mr_13_22 V_260 rfl rfl rfl hR (Nat.le_refl _) h1 h2 h (fun v1 hp2 h => ?_)
  refine mjr_pop D_900_236 rfl ?_
  refine mjr_goto (tgt := 764) D_900_237 rfl ?_
  exact (t_900_764 hR h1 h2 hk18) _ _ _ _ _ h
noncomputable def b_900_210 (R : mjR) (L : Nat) (xs : Nat → Int32) (k18 : Nat → Nat → Int32 → mjH → mjU) (l1 : Nat) (l2 : Nat) (l3 : Int32) (s0 : Nat) (s1 : Int32) (s2 : Int32) (hp : mjH) : mjU := rV hp s0 11 (bI (R 204 [.ref s0, .int s1, .int s2] hp) (fun v1 hp2 => aX L xs (l3 + (1 : Int32)) (fun v3 => aX L xs (l3 + (2 : Int32)) (fun v4 => (if v4 = 0 then b_900_233 R L xs k18 l1 l2 l3 l2 v3 (0 : Int32) hp2 else b_900_233 R L xs k18 l1 l2 l3 l2 v3 (1 : Int32) hp2)))))
theorem t_900_210 {L : Nat} {xs : Nat → Int32} {d C S kc ks : Nat} {R : mjR} (hR : mjC R d) (h1 : kc ≤ C) (h2 : ks ≤ S) {k18 : Nat → Nat → Int32 → mjH → mjU} (hk18 : P_900_18 (mjXs L xs) (d + 1) C S kc ks k18) : P_900_210 (mjXs L xs) (d + 1) C S kc ks (b_900_210 R L xs k18) := by
  intro l1 l2 l3 s0 s1 s2 hp q h
  unfold b_900_210 at h
  refine mjq_vI (As := [.int s1, .int s2]) (rest := []) D_900_210 mr_13_18 V_204 rfl rfl rfl hR (Nat.le_refl _) h1 h2 h (fun v1 hp2 h => ?_)
  refine mjr_pop D_900_213 rfl ?_
  refine mjr_aload_n (x := l2) D_900_214 rfl ?_
  refine mjr_aload_n (x := 1000020) D_900_215 rfl ?_
  refine mjr_iload_n (x := l3) D_900_216 rfl ?_
  refine mjq_ic (v := (1 : Int32)) D_900_217 rfl ?_
  refine mjr_iadd D_900_218 ?_
  refine mjq_aX D_900_219 h (fun v3 h => ?_)
  refine mjr_aload_n (x := 1000020) D_900_220 rfl ?_
  refine mjr_iload_n (x := l3) D_900_221 rfl ?_
  refine mjq_ic (v := (2 : Int32)) D_900_222 rfl ?_
  refine mjr_iadd D_900_223 ?_
  refine mjq_aX D_900_224 h (fun v4 h => ?_)
  refine mjq_if_eq (tgt := 232) D_900_225 rfl h (fun h => ?_) (fun h => ?_)
  · refine mjq_ic (v := (0 : Int32)) D_900_232 rfl ?_
    exact (t_900_233 hR h1 h2 hk18) _ _ _ _ _ _ _ _ h
  · refine mjq_ic (v := (1 : Int32)) D_900_228 rfl ?_
    refine mjr_goto (tgt := 233) D_900_229 rfl ?_
    exact (t_900_233 hR h1 h2 hk18) _ _ _ _ _ _ _ _ h
noncomputable def b_900_18 (R : mjR) (L : Nat) (xs : Nat → Int32) (k18 : Nat → Nat → Int32 → mjH → mjU) (l1 : Nat) (l2 : Nat) (l3 : Int32) (hp : mjH) : mjU := (if ((Int32.ofNat L) - (6 : Int32)) < l3 then some (some (.int (1 : Int32)), hp) else aX L xs l3 (fun v1 => (if (v1 &&& (31 : Int32)) = (0 : Int32) then aX L xs (l3 + (1 : Int32)) (fun v3 => aX L xs (l3 + (2 : Int32)) (fun v4 => aX L xs (l3 + (3 : Int32)) (fun v5 => aX L xs (l3 + (4 : Int32)) (fun v6 => aX L xs (l3 + (5 : Int32)) (fun v7 => rV hp l1 11 (bI (R 202 [.ref l1, .int v3, .int v4, .int v5, .int v6, .int v7] hp) (fun v8 hp9 => aX L xs (l3 + (1 : Int32)) (fun v10 => aX L xs (l3 + (2 : Int32)) (fun v11 => aX L xs (l3 + (3 : Int32)) (fun v12 => aX L xs (l3 + (4 : Int32)) (fun v13 => aX L xs (l3 + (5 : Int32)) (fun v14 => rV hp9 l2 12 (bI (R 258 [.ref l2, .int v10, .int v11, .int v12, .int v13, .int v14] hp9) (fun v15 hp16 => b_900_764 R L xs k18 l1 l2 l3 hp16)))))))))))))) else if (v1 &&& (31 : Int32)) = (1 : Int32) then aX L xs (l3 + (1 : Int32)) (fun v18 => aX L xs (l3 + (2 : Int32)) (fun v19 => (if v19 = 0 then b_900_210 R L xs k18 l1 l2 l3 l1 v18 (0 : Int32) hp else b_900_210 R L xs k18 l1 l2 l3 l1 v18 (1 : Int32) hp))) else if (v1 &&& (31 : Int32)) = (2 : Int32) then aX L xs (l3 + (1 : Int32)) (fun v21 => rV hp l1 11 (bI (R 206 [.ref l1, .int v21] hp) (fun v22 hp23 => aX L xs (l3 + (1 : Int32)) (fun v24 => rV hp23 l2 12 (bI (R 336 [.ref l2, .int v24] hp23) (fun v25 hp26 => b_900_764 R L xs k18 l1 l2 l3 hp26)))))) else if (v1 &&& (31 : Int32)) = (3 : Int32) then aX L xs (l3 + (1 : Int32)) (fun v28 => aX L xs (l3 + (2 : Int32)) (fun v29 => rV hp l1 11 (bI (R 207 [.ref l1, .int v28, .int v29] hp) (fun v30 hp31 => aX L xs (l3 + (1 : Int32)) (fun v32 => aX L xs (l3 + (2 : Int32)) (fun v33 => rV hp31 l2 12 (bI (R 337 [.ref l2, .int v32, .int v33] hp31) (fun v34 hp35 => b_900_764 R L xs k18 l1 l2 l3 hp35)))))))) else if (v1 &&& (31 : Int32)) = (4 : Int32) then aX L xs (l3 + (1 : Int32)) (fun v37 => aX L xs (l3 + (2 : Int32)) (fun v38 => aX L xs (l3 + (3 : Int32)) (fun v39 => rV hp l1 11 (bI (R 208 [.ref l1, .int v37, .int v38, .int v39] hp) (fun v40 hp41 => aX L xs (l3 + (1 : Int32)) (fun v42 => aX L xs (l3 + (2 : Int32)) (fun v43 => aX L xs (l3 + (3 : Int32)) (fun v44 => rV hp41 l2 12 (bI (R 339 [.ref l2, .int v42, .int v43, .int v44] hp41) (fun v45 hp46 => b_900_764 R L xs k18 l1 l2 l3 hp46)))))))))) else if (v1 &&& (31 : Int32)) = (5 : Int32) then aX L xs (l3 + (1 : Int32)) (fun v48 => aX L xs (l3 + (2 : Int32)) (fun v49 => rV hp l1 11 (bI (R 210 [.ref l1, .int v48, .int v49] hp) (fun v50 hp51 => aX L xs (l3 + (1 : Int32)) (fun v52 => aX L xs (l3 + (2 : Int32)) (fun v53 => rV hp51 l2 12 (bI (R 340 [.ref l2, .int v52, .int v53] hp51) (fun v54 hp55 => b_900_764 R L xs k18 l1 l2 l3 hp55)))))))) else if (v1 &&& (31 : Int32)) = (6 : Int32) then aX L xs (l3 + (1 : Int32)) (fun v57 => rV hp l1 11 (bI (R 211 [.ref l1, .int v57] hp) (fun v58 hp59 => aX L xs (l3 + (1 : Int32)) (fun v60 => rV hp59 l2 12 (bI (R 229 [.ref l2, .int v60] hp59) (fun v61 hp62 => b_900_764 R L xs k18 l1 l2 l3 hp62)))))) else if (v1 &&& (31 : Int32)) = (7 : Int32) then aX L xs (l3 + (1 : Int32)) (fun v64 => rV hp l1 11 (bI (R 212 [.ref l1, .int v64] hp) (fun v65 hp66 => aX L xs (l3 + (1 : Int32)) (fun v67 => rV hp66 l2 12 (bI (R 341 [.ref l2, .int v67] hp66) (fun v68 hp69 => b_900_764 R L xs k18 l1 l2 l3 hp69)))))) else if (v1 &&& (31 : Int32)) = (8 : Int32) then aX L xs (l3 + (1 : Int32)) (fun v71 => rV hp l1 11 (bI (R 213 [.ref l1, .int v71] hp) (fun v72 hp73 => aX L xs (l3 + (1 : Int32)) (fun v74 => rV hp73 l2 12 (bI (R 342 [.ref l2, .int v74] hp73) (fun v75 hp76 => b_900_764 R L xs k18 l1 l2 l3 hp76)))))) else if (v1 &&& (31 : Int32)) = (9 : Int32) then aX L xs (l3 + (1 : Int32)) (fun v78 => aX L xs (l3 + (2 : Int32)) (fun v79 => rV hp l1 11 (bI (R 214 [.ref l1, .int v78, .int v79] hp) (fun v80 hp81 => aX L xs (l3 + (1 : Int32)) (fun v82 => aX L xs (l3 + (2 : Int32)) (fun v83 => rV hp81 l2 12 (bI (R 343 [.ref l2, .int v82, .int v83] hp81) (fun v84 hp85 => b_900_764 R L xs k18 l1 l2 l3 hp85)))))))) else if (v1 &&& (31 : Int32)) = (10 : Int32) then aX L xs (l3 + (1 : Int32)) (fun v87 => aX L xs (l3 + (2 : Int32)) (fun v88 => rV hp l1 11 (bI (R 215 [.ref l1, .int v87, .int v88] hp) (fun v89 hp90 => aX L xs (l3 + (1 : Int32)) (fun v91 => aX L xs (l3 + (2 : Int32)) (fun v92 => rV hp90 l2 12 (bI (R 345 [.ref l2, .int v91, .int v92] hp90) (fun v93 hp94 => b_900_764 R L xs k18 l1 l2 l3 hp94)))))))) else if (v1 &&& (31 : Int32)) = (11 : Int32) then aX L xs (l3 + (1 : Int32)) (fun v96 => aX L xs (l3 + (2 : Int32)) (fun v97 => rV hp l1 11 (bI (R 216 [.ref l1, .int v96, .int v97] hp) (fun v98 hp99 => aX L xs (l3 + (1 : Int32)) (fun v100 => aX L xs (l3 + (2 : Int32)) (fun v101 => rV hp99 l2 12 (bI (R 346 [.ref l2, .int v100, .int v101] hp99) (fun v102 hp103 => b_900_764 R L xs k18 l1 l2 l3 hp103)))))))) else if (v1 &&& (31 : Int32)) = (12 : Int32) then aX L xs (l3 + (1 : Int32)) (fun v105 => aX L xs (l3 + (2 : Int32)) (fun v106 => rV hp l1 11 (bI (R 217 [.ref l1, .int v105, .int v106] hp) (fun v107 hp108 => aX L xs (l3 + (1 : Int32)) (fun v109 => aX L xs (l3 + (2 : Int32)) (fun v110 => rV hp108 l2 12 (bI (R 348 [.ref l2, .int v109, .int v110] hp108) (fun v111 hp112 => b_900_764 R L xs k18 l1 l2 l3 hp112)))))))) else if (v1 &&& (31 : Int32)) = (13 : Int32) then aX L xs (l3 + (1 : Int32)) (fun v114 => aX L xs (l3 + (2 : Int32)) (fun v115 => rV hp l1 11 (bI (R 218 [.ref l1, .int v114, .int v115] hp) (fun v116 hp117 => aX L xs (l3 + (1 : Int32)) (fun v118 => aX L xs (l3 + (2 : Int32)) (fun v119 => rV hp117 l2 12 (bI (R 349 [.ref l2, .int v118, .int v119] hp117) (fun v120 hp121 => b_900_764 R L xs k18 l1 l2 l3 hp121)))))))) else if (v1 &&& (31 : Int32)) = (14 : Int32) then aX L xs (l3 + (1 : Int32)) (fun v123 => aX L xs (l3 + (2 : Int32)) (fun v124 => rV hp l1 11 (bI (R 219 [.ref l1, .int v123, .int v124] hp) (fun v125 hp126 => aX L xs (l3 + (1 : Int32)) (fun v127 => aX L xs (l3 + (2 : Int32)) (fun v128 => rV hp126 l2 12 (bI (R 350 [.ref l2, .int v127, .int v128] hp126) (fun v129 hp130 => b_900_764 R L xs k18 l1 l2 l3 hp130)))))))) else if (v1 &&& (31 : Int32)) = (15 : Int32) then aX L xs (l3 + (1 : Int32)) (fun v132 => aX L xs (l3 + (2 : Int32)) (fun v133 => rV hp l1 11 (bI (R 220 [.ref l1, .int v132, .int v133] hp) (fun v134 hp135 => aX L xs (l3 + (1 : Int32)) (fun v136 => aX L xs (l3 + (2 : Int32)) (fun v137 => rV hp135 l2 12 (bI (R 245 [.ref l2, .int v136, .int v137] hp135) (fun v138 hp139 => b_900_764 R L xs k18 l1 l2 l3 hp139)))))))) else if (v1 &&& (31 : Int32)) = (16 : Int32) then aX L xs (l3 + (1 : Int32)) (fun v141 => rV hp l1 11 (bI (R 221 [.ref l1, .int v141] hp) (fun v142 hp143 => aX L xs (l3 + (1 : Int32)) (fun v144 => rV hp143 l2 12 (bI (R 257 [.ref l2, .int v144] hp143) (fun v145 hp146 => b_900_764 R L xs k18 l1 l2 l3 hp146)))))) else if (v1 &&& (31 : Int32)) = (17 : Int32) then rV hp l1 11 (bI (R 222 [.ref l1] hp) (fun v148 hp149 => rV hp149 l2 12 (bI (R 251 [.ref l2] hp149) (fun v150 hp151 => b_900_764 R L xs k18 l1 l2 l3 hp151)))) else if (v1 &&& (31 : Int32)) = (18 : Int32) then aX L xs (l3 + (1 : Int32)) (fun v153 => rV hp l1 11 (bI (R 223 [.ref l1, .int v153] hp) (fun v154 hp155 => aX L xs (l3 + (1 : Int32)) (fun v156 => rV hp155 l2 12 (bI (R 255 [.ref l2, .int v156] hp155) (fun v157 hp158 => b_900_764 R L xs k18 l1 l2 l3 hp158)))))) else if (v1 &&& (31 : Int32)) = (19 : Int32) then aX L xs (l3 + (1 : Int32)) (fun v160 => aX L xs (l3 + (2 : Int32)) (fun v161 => rV hp l1 11 (bI (R 224 [.ref l1, .int v160, .int v161] hp) (fun v162 hp163 => aX L xs (l3 + (1 : Int32)) (fun v164 => aX L xs (l3 + (2 : Int32)) (fun v165 => rV hp163 l2 12 (bI (R 256 [.ref l2, .int v164, .int v165] hp163) (fun v166 hp167 => (if v162 = v166 then b_900_764 R L xs k18 l1 l2 l3 hp167 else some (some (.int (0 : Int32)), hp167)))))))))) else b_900_764 R L xs k18 l1 l2 l3 hp)))
theorem t_900_18 {L : Nat} {xs : Nat → Int32} {d C S kc ks : Nat} {R : mjR} (hR : mjC R d) (h1 : kc ≤ C) (h2 : ks ≤ S) {k18 : Nat → Nat → Int32 → mjH → mjU} (hk18 : P_900_18 (mjXs L xs) (d + 1) C S kc ks k18) : P_900_18 (mjXs L xs) (d + 1) C S kc ks (b_900_18 R L xs k18) := by
  intro l1 l2 l3 hp q h
  unfold b_900_18 at h
  refine mjr_iload_n (x := l3) D_900_18 rfl ?_
  refine mjr_aload_n (x := 1000020) D_900_19 rfl ?_
  refine mjr_scr_len D_900_20 ?_
  refine mjq_bi (v := (6 : Int32)) D_900_21 rfl ?_
  refine mjr_isub D_900_23 ?_
  refine mjq_icmp_gt (tgt := 770) D_900_24 rfl h (fun h => ?_) (fun h => ?_)
  · refine mjq_ic (v := (1 : Int32)) D_900_770 rfl ?_
    exact mjr_ireturn D_900_771 rfl rfl h1 h2 (Option.some.inj h)
  · refine mjr_aload_n (x := 1000020) D_900_27 rfl ?_
    refine mjr_iload_n (x := l3) D_900_28 rfl ?_
    refine mjq_aX D_900_29 h (fun v1 h => ?_)
    refine mjq_bi (v := (31 : Int32)) D_900_30 rfl ?_
    refine mjr_iand D_900_32 ?_
    refine mjq_tsw (c := (0 : Int32)) (tgt := 128) D_900_33 (by decide) (by decide) rfl rfl h (fun h => ?_) (fun n2 h => ?_)
    · refine mjr_aload_n (x := l1) D_900_128 rfl ?_
      refine mjr_aload_n (x := 1000020) D_900_129 rfl ?_
      refine mjr_iload_n (x := l3) D_900_130 rfl ?_
      refine mjq_ic (v := (1 : Int32)) D_900_131 rfl ?_
      refine mjr_iadd D_900_132 ?_
      refine mjq_aX D_900_133 h (fun v3 h => ?_)
      refine mjr_aload_n (x := 1000020) D_900_134 rfl ?_
      refine mjr_iload_n (x := l3) D_900_135 rfl ?_
      refine mjq_ic (v := (2 : Int32)) D_900_136 rfl ?_
      refine mjr_iadd D_900_137 ?_
      refine mjq_aX D_900_138 h (fun v4 h => ?_)
      refine mjr_aload_n (x := 1000020) D_900_139 rfl ?_
      refine mjr_iload_n (x := l3) D_900_140 rfl ?_
      refine mjq_ic (v := (3 : Int32)) D_900_141 rfl ?_
      refine mjr_iadd D_900_142 ?_
      refine mjq_aX D_900_143 h (fun v5 h => ?_)
      refine mjr_aload_n (x := 1000020) D_900_144 rfl ?_
      refine mjr_iload_n (x := l3) D_900_145 rfl ?_
      refine mjq_ic (v := (4 : Int32)) D_900_146 rfl ?_
      refine mjr_iadd D_900_147 ?_
      refine mjq_aX D_900_148 h (fun v6 h => ?_)
      refine mjr_aload_n (x := 1000020) D_900_149 rfl ?_
      refine mjr_iload_n (x := l3) D_900_150 rfl ?_
      refine mjq_ic (v := (5 : Int32)) D_900_151 rfl ?_
      refine mjr_iadd D_900_152 ?_
      refine mjq_aX D_900_153 h (fun v7 h => ?_)
      refine mjq_vI (As := [.int v3, .int v4, .int v5, .int v6, .int v7]) (rest := []) D_900_154 mr_13_13 V_202 rfl rfl rfl hR (Nat.le_refl _) h1 h2 h (fun v8 hp9 h => ?_)
      refine mjr_pop D_900_157 rfl ?_
      refine mjr_aload_n (x := l2) D_900_158 rfl ?_
      refine mjr_aload_n (x := 1000020) D_900_159 rfl ?_
      refine mjr_iload_n (x := l3) D_900_160 rfl ?_
      refine mjq_ic (v := (1 : Int32)) D_900_161 rfl ?_
      refine mjr_iadd D_900_162 ?_
      refine mjq_aX D_900_163 h (fun v10 h => ?_)
      refine mjr_aload_n (x := 1000020) D_900_164 rfl ?_
      refine mjr_iload_n (x := l3) D_900_165 rfl ?_
      refine mjq_ic (v := (2 : Int32)) D_900_166 rfl ?_
      refine mjr_iadd D_900_167 ?_
      refine mjq_aX D_900_168 h (fun v11 h => ?_)
      refine mjr_aload_n (x := 1000020) D_900_169 rfl ?_
      refine mjr_iload_n (x := l3) D_900_170 rfl ?_
      refine mjq_ic (v := (3 : Int32)) D_900_171 rfl ?_
      refine mjr_iadd D_900_172 ?_
      refine mjq_aX D_900_173 h (fun v12 h => ?_)
      refine mjr_aload_n (x := 1000020) D_900_174 rfl ?_
      refine mjr_iload_n (x := l3) D_900_175 rfl ?_
      refine mjq_ic (v := (4 : Int32)) D_900_176 rfl ?_
      refine mjr_iadd D_900_177 ?_
      refine mjq_aX D_900_178 h (fun v13 h => ?_)
      refine mjr_aload_n (x := 1000020) D_900_179 rfl ?_
      refine mjr_iload_n (x := l3) D_900_180 rfl ?_
      refine mjq_ic (v := (5 : Int32)) D_900_181 rfl ?_
      refine mjr_iadd D_900_182 ?_
      refine mjq_aX D_900_183 h (fun v14 h => ?_)
      refine mjq_vI (As := [.int v10, .int v11, .int v12, .int v13, .int v14]) (rest := []) D_900_184 mr_13_17 V_258 rfl rfl rfl hR (Nat.le_refl _) h1 h2 h (fun v15 hp16 h => ?_)
      refine mjr_pop D_900_187 rfl ?_
      refine mjr_goto (tgt := 764) D_900_188 rfl ?_
      exact (t_900_764 hR h1 h2 hk18) _ _ _ _ _ h
    refine mjq_tsw (c := (1 : Int32)) (tgt := 191) D_900_33 (by decide) (by decide) rfl rfl h (fun h => ?_) (fun n17 h => ?_)
    · refine mjr_aload_n (x := l1) D_900_191 rfl ?_
      refine mjr_aload_n (x := 1000020) D_900_192 rfl ?_
      refine mjr_iload_n (x := l3) D_900_193 rfl ?_
      refine mjq_ic (v := (1 : Int32)) D_900_194 rfl ?_
      refine mjr_iadd D_900_195 ?_
      refine mjq_aX D_900_196 h (fun v18 h => ?_)
      refine mjr_aload_n (x := 1000020) D_900_197 rfl ?_
      refine mjr_iload_n (x := l3) D_900_198 rfl ?_
      refine mjq_ic (v := (2 : Int32)) D_900_199 rfl ?_
      refine mjr_iadd D_900_200 ?_
      refine mjq_aX D_900_201 h (fun v19 h => ?_)
      refine mjq_if_eq (tgt := 209) D_900_202 rfl h (fun h => ?_) (fun h => ?_)
      · refine mjq_ic (v := (0 : Int32)) D_900_209 rfl ?_
        exact (t_900_210 hR h1 h2 hk18) _ _ _ _ _ _ _ _ h
      · refine mjq_ic (v := (1 : Int32)) D_900_205 rfl ?_
        refine mjr_goto (tgt := 210) D_900_206 rfl ?_
        exact (t_900_210 hR h1 h2 hk18) _ _ _ _ _ _ _ _ h
    refine mjq_tsw (c := (2 : Int32)) (tgt := 240) D_900_33 (by decide) (by decide) rfl rfl h (fun h => ?_) (fun n20 h => ?_)
    · refine mjr_aload_n (x := l1) D_900_240 rfl ?_
      refine mjr_aload_n (x := 1000020) D_900_241 rfl ?_
      refine mjr_iload_n (x := l3) D_900_242 rfl ?_
      refine mjq_ic (v := (1 : Int32)) D_900_243 rfl ?_
      refine mjr_iadd D_900_244 ?_
      refine mjq_aX D_900_245 h (fun v21 h => ?_)
      refine mjq_vI (As := [.int v21]) (rest := []) D_900_246 mr_13_23 V_206 rfl rfl rfl hR (Nat.le_refl _) h1 h2 h (fun v22 hp23 h => ?_)
      refine mjr_pop D_900_249 rfl ?_
      refine mjr_aload_n (x := l2) D_900_250 rfl ?_
      refine mjr_aload_n (x := 1000020) D_900_251 rfl ?_
      refine mjr_iload_n (x := l3) D_900_252 rfl ?_
      refine mjq_ic (v := (1 : Int32)) D_900_253 rfl ?_
      refine mjr_iadd D_900_254 ?_
      refine mjq_aX D_900_255 h (fun v24 h => ?_)
      refine mjq_vI (As := [.int v24]) (rest := []) D_900_256 mr_13_27 V_336 rfl rfl rfl hR (Nat.le_refl _) h1 h2 h (fun v25 hp26 h => ?_)
      refine mjr_pop D_900_259 rfl ?_
      refine mjr_goto (tgt := 764) D_900_260 rfl ?_
      exact (t_900_764 hR h1 h2 hk18) _ _ _ _ _ h
    refine mjq_tsw (c := (3 : Int32)) (tgt := 263) D_900_33 (by decide) (by decide) rfl rfl h (fun h => ?_) (fun n27 h => ?_)
    · refine mjr_aload_n (x := l1) D_900_263 rfl ?_
      refine mjr_aload_n (x := 1000020) D_900_264 rfl ?_
      refine mjr_iload_n (x := l3) D_900_265 rfl ?_
      refine mjq_ic (v := (1 : Int32)) D_900_266 rfl ?_
      refine mjr_iadd D_900_267 ?_
      refine mjq_aX D_900_268 h (fun v28 h => ?_)
      refine mjr_aload_n (x := 1000020) D_900_269 rfl ?_
      refine mjr_iload_n (x := l3) D_900_270 rfl ?_
      refine mjq_ic (v := (2 : Int32)) D_900_271 rfl ?_
      refine mjr_iadd D_900_272 ?_
      refine mjq_aX D_900_273 h (fun v29 h => ?_)
      refine mjq_vI (As := [.int v28, .int v29]) (rest := []) D_900_274 mr_13_28 V_207 rfl rfl rfl hR (Nat.le_refl _) h1 h2 h (fun v30 hp31 h => ?_)
      refine mjr_pop D_900_277 rfl ?_
      refine mjr_aload_n (x := l2) D_900_278 rfl ?_
      refine mjr_aload_n (x := 1000020) D_900_279 rfl ?_
      refine mjr_iload_n (x := l3) D_900_280 rfl ?_
      refine mjq_ic (v := (1 : Int32)) D_900_281 rfl ?_
      refine mjr_iadd D_900_282 ?_
      refine mjq_aX D_900_283 h (fun v32 h => ?_)
      refine mjr_aload_n (x := 1000020) D_900_284 rfl ?_
      refine mjr_iload_n (x := l3) D_900_285 rfl ?_
      refine mjq_ic (v := (2 : Int32)) D_900_286 rfl ?_
      refine mjr_iadd D_900_287 ?_
      refine mjq_aX D_900_288 h (fun v33 h => ?_)
      refine mjq_vI (As := [.int v32, .int v33]) (rest := []) D_900_289 mr_13_32 V_337 rfl rfl rfl hR (Nat.le_refl _) h1 h2 h (fun v34 hp35 h => ?_)
      refine mjr_pop D_900_292 rfl ?_
      refine mjr_goto (tgt := 764) D_900_293 rfl ?_
      exact (t_900_764 hR h1 h2 hk18) _ _ _ _ _ h
    refine mjq_tsw (c := (4 : Int32)) (tgt := 296) D_900_33 (by decide) (by decide) rfl rfl h (fun h => ?_) (fun n36 h => ?_)
    · refine mjr_aload_n (x := l1) D_900_296 rfl ?_
      refine mjr_aload_n (x := 1000020) D_900_297 rfl ?_
      refine mjr_iload_n (x := l3) D_900_298 rfl ?_
      refine mjq_ic (v := (1 : Int32)) D_900_299 rfl ?_
      refine mjr_iadd D_900_300 ?_
      refine mjq_aX D_900_301 h (fun v37 h => ?_)
      refine mjr_aload_n (x := 1000020) D_900_302 rfl ?_
      refine mjr_iload_n (x := l3) D_900_303 rfl ?_
      refine mjq_ic (v := (2 : Int32)) D_900_304 rfl ?_
      refine mjr_iadd D_900_305 ?_
      refine mjq_aX D_900_306 h (fun v38 h => ?_)
      refine mjr_aload_n (x := 1000020) D_900_307 rfl ?_
      refine mjr_iload_n (x := l3) D_900_308 rfl ?_
      refine mjq_ic (v := (3 : Int32)) D_900_309 rfl ?_
      refine mjr_iadd D_900_310 ?_
      refine mjq_aX D_900_311 h (fun v39 h => ?_)
      refine mjq_vI (As := [.int v37, .int v38, .int v39]) (rest := []) D_900_312 mr_13_33 V_208 rfl rfl rfl hR (Nat.le_refl _) h1 h2 h (fun v40 hp41 h => ?_)
      refine mjr_pop D_900_315 rfl ?_
      refine mjr_aload_n (x := l2) D_900_316 rfl ?_
      refine mjr_aload_n (x := 1000020) D_900_317 rfl ?_
      refine mjr_iload_n (x := l3) D_900_318 rfl ?_
      refine mjq_ic (v := (1 : Int32)) D_900_319 rfl ?_
      refine mjr_iadd D_900_320 ?_
      refine mjq_aX D_900_321 h (fun v42 h => ?_)
      refine mjr_aload_n (x := 1000020) D_900_322 rfl ?_
      refine mjr_iload_n (x := l3) D_900_323 rfl ?_
      refine mjq_ic (v := (2 : Int32)) D_900_324 rfl ?_
      refine mjr_iadd D_900_325 ?_
      refine mjq_aX D_900_326 h (fun v43 h => ?_)
      refine mjr_aload_n (x := 1000020) D_900_327 rfl ?_
      refine mjr_iload_n (x := l3) D_900_328 rfl ?_
      refine mjq_ic (v := (3 : Int32)) D_900_329 rfl ?_
      refine mjr_iadd D_900_330 ?_
      refine mjq_aX D_900_331 h (fun v44 h => ?_)
      refine mjq_vI (As := [.int v42, .int v43, .int v44]) (rest := []) D_900_332 mr_13_37 V_339 rfl rfl rfl hR (Nat.le_refl _) h1 h2 h (fun v45 hp46 h => ?_)
      refine mjr_pop D_900_335 rfl ?_
      refine mjr_goto (tgt := 764) D_900_336 rfl ?_
      exact (t_900_764 hR h1 h2 hk18) _ _ _ _ _ h
    refine mjq_tsw (c := (5 : Int32)) (tgt := 339) D_900_33 (by decide) (by decide) rfl rfl h (fun h => ?_) (fun n47 h => ?_)
    · refine mjr_aload_n (x := l1) D_900_339 rfl ?_
      refine mjr_aload_n (x := 1000020) D_900_340 rfl ?_
      refine mjr_iload_n (x := l3) D_900_341 rfl ?_
      refine mjq_ic (v := (1 : Int32)) D_900_342 rfl ?_
      refine mjr_iadd D_900_343 ?_
      refine mjq_aX D_900_344 h (fun v48 h => ?_)
      refine mjr_aload_n (x := 1000020) D_900_345 rfl ?_
      refine mjr_iload_n (x := l3) D_900_346 rfl ?_
      refine mjq_ic (v := (2 : Int32)) D_900_347 rfl ?_
      refine mjr_iadd D_900_348 ?_
      refine mjq_aX D_900_349 h (fun v49 h => ?_)
      refine mjq_vI (As := [.int v48, .int v49]) (rest := []) D_900_350 mr_13_38 V_210 rfl rfl rfl hR (Nat.le_refl _) h1 h2 h (fun v50 hp51 h => ?_)
      refine mjr_pop D_900_353 rfl ?_
      refine mjr_aload_n (x := l2) D_900_354 rfl ?_
      refine mjr_aload_n (x := 1000020) D_900_355 rfl ?_
      refine mjr_iload_n (x := l3) D_900_356 rfl ?_
      refine mjq_ic (v := (1 : Int32)) D_900_357 rfl ?_
      refine mjr_iadd D_900_358 ?_
      refine mjq_aX D_900_359 h (fun v52 h => ?_)
      refine mjr_aload_n (x := 1000020) D_900_360 rfl ?_
      refine mjr_iload_n (x := l3) D_900_361 rfl ?_
      refine mjq_ic (v := (2 : Int32)) D_900_362 rfl ?_
      refine mjr_iadd D_900_363 ?_
      refine mjq_aX D_900_364 h (fun v53 h => ?_)
      refine mjq_vI (As := [.int v52, .int v53]) (rest := []) D_900_365 mr_13_42 V_340 rfl rfl rfl hR (Nat.le_refl _) h1 h2 h (fun v54 hp55 h => ?_)
      refine mjr_pop D_900_368 rfl ?_
      refine mjr_goto (tgt := 764) D_900_369 rfl ?_
      exact (t_900_764 hR h1 h2 hk18) _ _ _ _ _ h
    refine mjq_tsw (c := (6 : Int32)) (tgt := 372) D_900_33 (by decide) (by decide) rfl rfl h (fun h => ?_) (fun n56 h => ?_)
    · refine mjr_aload_n (x := l1) D_900_372 rfl ?_
      refine mjr_aload_n (x := 1000020) D_900_373 rfl ?_
      refine mjr_iload_n (x := l3) D_900_374 rfl ?_
      refine mjq_ic (v := (1 : Int32)) D_900_375 rfl ?_
      refine mjr_iadd D_900_376 ?_
      refine mjq_aX D_900_377 h (fun v57 h => ?_)
      refine mjq_vI (As := [.int v57]) (rest := []) D_900_378 mr_13_43 V_211 rfl rfl rfl hR (Nat.le_refl _) h1 h2 h (fun v58 hp59 h => ?_)
      refine mjr_pop D_900_381 rfl ?_
      refine mjr_aload_n (x := l2) D_900_382 rfl ?_
      refine mjr_aload_n (x := 1000020) D_900_383 rfl ?_
      refine mjr_iload_n (x := l3) D_900_384 rfl ?_
      refine mjq_ic (v := (1 : Int32)) D_900_385 rfl ?_
      refine mjr_iadd D_900_386 ?_
      refine mjq_aX D_900_387 h (fun v60 h => ?_)
      refine mjq_vI (As := [.int v60]) (rest := []) D_900_388 mr_13_46 V_229 rfl rfl rfl hR (Nat.le_refl _) h1 h2 h (fun v61 hp62 h => ?_)
      refine mjr_pop D_900_391 rfl ?_
      refine mjr_goto (tgt := 764) D_900_392 rfl ?_
      exact (t_900_764 hR h1 h2 hk18) _ _ _ _ _ h
    refine mjq_tsw (c := (7 : Int32)) (tgt := 395) D_900_33 (by decide) (by decide) rfl rfl h (fun h => ?_) (fun n63 h => ?_)
    · refine mjr_aload_n (x := l1) D_900_395 rfl ?_
      refine mjr_aload_n (x := 1000020) D_900_396 rfl ?_
      refine mjr_iload_n (x := l3) D_900_397 rfl ?_
      refine mjq_ic (v := (1 : Int32)) D_900_398 rfl ?_
      refine mjr_iadd D_900_399 ?_
      refine mjq_aX D_900_400 h (fun v64 h => ?_)
      refine mjq_vI (As := [.int v64]) (rest := []) D_900_401 mr_13_47 V_212 rfl rfl rfl hR (Nat.le_refl _) h1 h2 h (fun v65 hp66 h => ?_)
      refine mjr_pop D_900_404 rfl ?_
      refine mjr_aload_n (x := l2) D_900_405 rfl ?_
      refine mjr_aload_n (x := 1000020) D_900_406 rfl ?_
      refine mjr_iload_n (x := l3) D_900_407 rfl ?_
      refine mjq_ic (v := (1 : Int32)) D_900_408 rfl ?_
      refine mjr_iadd D_900_409 ?_
      refine mjq_aX D_900_410 h (fun v67 h => ?_)
      refine mjq_vI (As := [.int v67]) (rest := []) D_900_411 mr_13_50 V_341 rfl rfl rfl hR (Nat.le_refl _) h1 h2 h (fun v68 hp69 h => ?_)
      refine mjr_pop D_900_414 rfl ?_
      refine mjr_goto (tgt := 764) D_900_415 rfl ?_
      exact (t_900_764 hR h1 h2 hk18) _ _ _ _ _ h
    refine mjq_tsw (c := (8 : Int32)) (tgt := 418) D_900_33 (by decide) (by decide) rfl rfl h (fun h => ?_) (fun n70 h => ?_)
    · refine mjr_aload_n (x := l1) D_900_418 rfl ?_
      refine mjr_aload_n (x := 1000020) D_900_419 rfl ?_
      refine mjr_iload_n (x := l3) D_900_420 rfl ?_
      refine mjq_ic (v := (1 : Int32)) D_900_421 rfl ?_
      refine mjr_iadd D_900_422 ?_
      refine mjq_aX D_900_423 h (fun v71 h => ?_)
      refine mjq_vI (As := [.int v71]) (rest := []) D_900_424 mr_13_51 V_213 rfl rfl rfl hR (Nat.le_refl _) h1 h2 h (fun v72 hp73 h => ?_)
      refine mjr_pop D_900_427 rfl ?_
      refine mjr_aload_n (x := l2) D_900_428 rfl ?_
      refine mjr_aload_n (x := 1000020) D_900_429 rfl ?_
      refine mjr_iload_n (x := l3) D_900_430 rfl ?_
      refine mjq_ic (v := (1 : Int32)) D_900_431 rfl ?_
      refine mjr_iadd D_900_432 ?_
      refine mjq_aX D_900_433 h (fun v74 h => ?_)
      refine mjq_vI (As := [.int v74]) (rest := []) D_900_434 mr_13_54 V_342 rfl rfl rfl hR (Nat.le_refl _) h1 h2 h (fun v75 hp76 h => ?_)
      refine mjr_pop D_900_437 rfl ?_
      refine mjr_goto (tgt := 764) D_900_438 rfl ?_
      exact (t_900_764 hR h1 h2 hk18) _ _ _ _ _ h
    refine mjq_tsw (c := (9 : Int32)) (tgt := 441) D_900_33 (by decide) (by decide) rfl rfl h (fun h => ?_) (fun n77 h => ?_)
    · refine mjr_aload_n (x := l1) D_900_441 rfl ?_
      refine mjr_aload_n (x := 1000020) D_900_442 rfl ?_
      refine mjr_iload_n (x := l3) D_900_443 rfl ?_
      refine mjq_ic (v := (1 : Int32)) D_900_444 rfl ?_
      refine mjr_iadd D_900_445 ?_
      refine mjq_aX D_900_446 h (fun v78 h => ?_)
      refine mjr_aload_n (x := 1000020) D_900_447 rfl ?_
      refine mjr_iload_n (x := l3) D_900_448 rfl ?_
      refine mjq_ic (v := (2 : Int32)) D_900_449 rfl ?_
      refine mjr_iadd D_900_450 ?_
      refine mjq_aX D_900_451 h (fun v79 h => ?_)
      refine mjq_vI (As := [.int v78, .int v79]) (rest := []) D_900_452 mr_13_55 V_214 rfl rfl rfl hR (Nat.le_refl _) h1 h2 h (fun v80 hp81 h => ?_)
      refine mjr_pop D_900_455 rfl ?_
      refine mjr_aload_n (x := l2) D_900_456 rfl ?_
      refine mjr_aload_n (x := 1000020) D_900_457 rfl ?_
      refine mjr_iload_n (x := l3) D_900_458 rfl ?_
      refine mjq_ic (v := (1 : Int32)) D_900_459 rfl ?_
      refine mjr_iadd D_900_460 ?_
      refine mjq_aX D_900_461 h (fun v82 h => ?_)
      refine mjr_aload_n (x := 1000020) D_900_462 rfl ?_
      refine mjr_iload_n (x := l3) D_900_463 rfl ?_
      refine mjq_ic (v := (2 : Int32)) D_900_464 rfl ?_
      refine mjr_iadd D_900_465 ?_
      refine mjq_aX D_900_466 h (fun v83 h => ?_)
      refine mjq_vI (As := [.int v82, .int v83]) (rest := []) D_900_467 mr_13_58 V_343 rfl rfl rfl hR (Nat.le_refl _) h1 h2 h (fun v84 hp85 h => ?_)
      refine mjr_pop D_900_470 rfl ?_
      refine mjr_goto (tgt := 764) D_900_471 rfl ?_
      exact (t_900_764 hR h1 h2 hk18) _ _ _ _ _ h
    refine mjq_tsw (c := (10 : Int32)) (tgt := 474) D_900_33 (by decide) (by decide) rfl rfl h (fun h => ?_) (fun n86 h => ?_)
    · refine mjr_aload_n (x := l1) D_900_474 rfl ?_
      refine mjr_aload_n (x := 1000020) D_900_475 rfl ?_
      refine mjr_iload_n (x := l3) D_900_476 rfl ?_
      refine mjq_ic (v := (1 : Int32)) D_900_477 rfl ?_
      refine mjr_iadd D_900_478 ?_
      refine mjq_aX D_900_479 h (fun v87 h => ?_)
      refine mjr_aload_n (x := 1000020) D_900_480 rfl ?_
      refine mjr_iload_n (x := l3) D_900_481 rfl ?_
      refine mjq_ic (v := (2 : Int32)) D_900_482 rfl ?_
      refine mjr_iadd D_900_483 ?_
      refine mjq_aX D_900_484 h (fun v88 h => ?_)
      refine mjq_vI (As := [.int v87, .int v88]) (rest := []) D_900_485 mr_13_59 V_215 rfl rfl rfl hR (Nat.le_refl _) h1 h2 h (fun v89 hp90 h => ?_)
      refine mjr_pop D_900_488 rfl ?_
      refine mjr_aload_n (x := l2) D_900_489 rfl ?_
      refine mjr_aload_n (x := 1000020) D_900_490 rfl ?_
      refine mjr_iload_n (x := l3) D_900_491 rfl ?_
      refine mjq_ic (v := (1 : Int32)) D_900_492 rfl ?_
      refine mjr_iadd D_900_493 ?_
      refine mjq_aX D_900_494 h (fun v91 h => ?_)
      refine mjr_aload_n (x := 1000020) D_900_495 rfl ?_
      refine mjr_iload_n (x := l3) D_900_496 rfl ?_
      refine mjq_ic (v := (2 : Int32)) D_900_497 rfl ?_
      refine mjr_iadd D_900_498 ?_
      refine mjq_aX D_900_499 h (fun v92 h => ?_)
      refine mjq_vI (As := [.int v91, .int v92]) (rest := []) D_900_500 mr_13_62 V_345 rfl rfl rfl hR (Nat.le_refl _) h1 h2 h (fun v93 hp94 h => ?_)
      refine mjr_pop D_900_503 rfl ?_
      refine mjr_goto (tgt := 764) D_900_504 rfl ?_
      exact (t_900_764 hR h1 h2 hk18) _ _ _ _ _ h
    refine mjq_tsw (c := (11 : Int32)) (tgt := 507) D_900_33 (by decide) (by decide) rfl rfl h (fun h => ?_) (fun n95 h => ?_)
    · refine mjr_aload_n (x := l1) D_900_507 rfl ?_
      refine mjr_aload_n (x := 1000020) D_900_508 rfl ?_
      refine mjr_iload_n (x := l3) D_900_509 rfl ?_
      refine mjq_ic (v := (1 : Int32)) D_900_510 rfl ?_
      refine mjr_iadd D_900_511 ?_
      refine mjq_aX D_900_512 h (fun v96 h => ?_)
      refine mjr_aload_n (x := 1000020) D_900_513 rfl ?_
      refine mjr_iload_n (x := l3) D_900_514 rfl ?_
      refine mjq_ic (v := (2 : Int32)) D_900_515 rfl ?_
      refine mjr_iadd D_900_516 ?_
      refine mjq_aX D_900_517 h (fun v97 h => ?_)
      refine mjq_vI (As := [.int v96, .int v97]) (rest := []) D_900_518 mr_13_63 V_216 rfl rfl rfl hR (Nat.le_refl _) h1 h2 h (fun v98 hp99 h => ?_)
      refine mjr_pop D_900_521 rfl ?_
      refine mjr_aload_n (x := l2) D_900_522 rfl ?_
      refine mjr_aload_n (x := 1000020) D_900_523 rfl ?_
      refine mjr_iload_n (x := l3) D_900_524 rfl ?_
      refine mjq_ic (v := (1 : Int32)) D_900_525 rfl ?_
      refine mjr_iadd D_900_526 ?_
      refine mjq_aX D_900_527 h (fun v100 h => ?_)
      refine mjr_aload_n (x := 1000020) D_900_528 rfl ?_
      refine mjr_iload_n (x := l3) D_900_529 rfl ?_
      refine mjq_ic (v := (2 : Int32)) D_900_530 rfl ?_
      refine mjr_iadd D_900_531 ?_
      refine mjq_aX D_900_532 h (fun v101 h => ?_)
      refine mjq_vI (As := [.int v100, .int v101]) (rest := []) D_900_533 mr_13_66 V_346 rfl rfl rfl hR (Nat.le_refl _) h1 h2 h (fun v102 hp103 h => ?_)
      refine mjr_pop D_900_536 rfl ?_
      refine mjr_goto (tgt := 764) D_900_537 rfl ?_
      exact (t_900_764 hR h1 h2 hk18) _ _ _ _ _ h
    refine mjq_tsw (c := (12 : Int32)) (tgt := 540) D_900_33 (by decide) (by decide) rfl rfl h (fun h => ?_) (fun n104 h => ?_)
    · refine mjr_aload_n (x := l1) D_900_540 rfl ?_
      refine mjr_aload_n (x := 1000020) D_900_541 rfl ?_
      refine mjr_iload_n (x := l3) D_900_542 rfl ?_
      refine mjq_ic (v := (1 : Int32)) D_900_543 rfl ?_
      refine mjr_iadd D_900_544 ?_
      refine mjq_aX D_900_545 h (fun v105 h => ?_)
      refine mjr_aload_n (x := 1000020) D_900_546 rfl ?_
      refine mjr_iload_n (x := l3) D_900_547 rfl ?_
      refine mjq_ic (v := (2 : Int32)) D_900_548 rfl ?_
      refine mjr_iadd D_900_549 ?_
      refine mjq_aX D_900_550 h (fun v106 h => ?_)
      refine mjq_vI (As := [.int v105, .int v106]) (rest := []) D_900_551 mr_13_67 V_217 rfl rfl rfl hR (Nat.le_refl _) h1 h2 h (fun v107 hp108 h => ?_)
      refine mjr_pop D_900_554 rfl ?_
      refine mjr_aload_n (x := l2) D_900_555 rfl ?_
      refine mjr_aload_n (x := 1000020) D_900_556 rfl ?_
      refine mjr_iload_n (x := l3) D_900_557 rfl ?_
      refine mjq_ic (v := (1 : Int32)) D_900_558 rfl ?_
      refine mjr_iadd D_900_559 ?_
      refine mjq_aX D_900_560 h (fun v109 h => ?_)
      refine mjr_aload_n (x := 1000020) D_900_561 rfl ?_
      refine mjr_iload_n (x := l3) D_900_562 rfl ?_
      refine mjq_ic (v := (2 : Int32)) D_900_563 rfl ?_
      refine mjr_iadd D_900_564 ?_
      refine mjq_aX D_900_565 h (fun v110 h => ?_)
      refine mjq_vI (As := [.int v109, .int v110]) (rest := []) D_900_566 mr_13_70 V_348 rfl rfl rfl hR (Nat.le_refl _) h1 h2 h (fun v111 hp112 h => ?_)
      refine mjr_pop D_900_569 rfl ?_
      refine mjr_goto (tgt := 764) D_900_570 rfl ?_
      exact (t_900_764 hR h1 h2 hk18) _ _ _ _ _ h
    refine mjq_tsw (c := (13 : Int32)) (tgt := 573) D_900_33 (by decide) (by decide) rfl rfl h (fun h => ?_) (fun n113 h => ?_)
    · refine mjr_aload_n (x := l1) D_900_573 rfl ?_
      refine mjr_aload_n (x := 1000020) D_900_574 rfl ?_
      refine mjr_iload_n (x := l3) D_900_575 rfl ?_
      refine mjq_ic (v := (1 : Int32)) D_900_576 rfl ?_
      refine mjr_iadd D_900_577 ?_
      refine mjq_aX D_900_578 h (fun v114 h => ?_)
      refine mjr_aload_n (x := 1000020) D_900_579 rfl ?_
      refine mjr_iload_n (x := l3) D_900_580 rfl ?_
      refine mjq_ic (v := (2 : Int32)) D_900_581 rfl ?_
      refine mjr_iadd D_900_582 ?_
      refine mjq_aX D_900_583 h (fun v115 h => ?_)
      refine mjq_vI (As := [.int v114, .int v115]) (rest := []) D_900_584 mr_13_71 V_218 rfl rfl rfl hR (Nat.le_refl _) h1 h2 h (fun v116 hp117 h => ?_)
      refine mjr_pop D_900_587 rfl ?_
      refine mjr_aload_n (x := l2) D_900_588 rfl ?_
      refine mjr_aload_n (x := 1000020) D_900_589 rfl ?_
      refine mjr_iload_n (x := l3) D_900_590 rfl ?_
      refine mjq_ic (v := (1 : Int32)) D_900_591 rfl ?_
      refine mjr_iadd D_900_592 ?_
      refine mjq_aX D_900_593 h (fun v118 h => ?_)
      refine mjr_aload_n (x := 1000020) D_900_594 rfl ?_
      refine mjr_iload_n (x := l3) D_900_595 rfl ?_
      refine mjq_ic (v := (2 : Int32)) D_900_596 rfl ?_
      refine mjr_iadd D_900_597 ?_
      refine mjq_aX D_900_598 h (fun v119 h => ?_)
      refine mjq_vI (As := [.int v118, .int v119]) (rest := []) D_900_599 mr_13_74 V_349 rfl rfl rfl hR (Nat.le_refl _) h1 h2 h (fun v120 hp121 h => ?_)
      refine mjr_pop D_900_602 rfl ?_
      refine mjr_goto (tgt := 764) D_900_603 rfl ?_
      exact (t_900_764 hR h1 h2 hk18) _ _ _ _ _ h
    refine mjq_tsw (c := (14 : Int32)) (tgt := 606) D_900_33 (by decide) (by decide) rfl rfl h (fun h => ?_) (fun n122 h => ?_)
    · refine mjr_aload_n (x := l1) D_900_606 rfl ?_
      refine mjr_aload_n (x := 1000020) D_900_607 rfl ?_
      refine mjr_iload_n (x := l3) D_900_608 rfl ?_
      refine mjq_ic (v := (1 : Int32)) D_900_609 rfl ?_
      refine mjr_iadd D_900_610 ?_
      refine mjq_aX D_900_611 h (fun v123 h => ?_)
      refine mjr_aload_n (x := 1000020) D_900_612 rfl ?_
      refine mjr_iload_n (x := l3) D_900_613 rfl ?_
      refine mjq_ic (v := (2 : Int32)) D_900_614 rfl ?_
      refine mjr_iadd D_900_615 ?_
      refine mjq_aX D_900_616 h (fun v124 h => ?_)
      refine mjq_vI (As := [.int v123, .int v124]) (rest := []) D_900_617 mr_13_75 V_219 rfl rfl rfl hR (Nat.le_refl _) h1 h2 h (fun v125 hp126 h => ?_)
      refine mjr_pop D_900_620 rfl ?_
      refine mjr_aload_n (x := l2) D_900_621 rfl ?_
      refine mjr_aload_n (x := 1000020) D_900_622 rfl ?_
      refine mjr_iload_n (x := l3) D_900_623 rfl ?_
      refine mjq_ic (v := (1 : Int32)) D_900_624 rfl ?_
      refine mjr_iadd D_900_625 ?_
      refine mjq_aX D_900_626 h (fun v127 h => ?_)
      refine mjr_aload_n (x := 1000020) D_900_627 rfl ?_
      refine mjr_iload_n (x := l3) D_900_628 rfl ?_
      refine mjq_ic (v := (2 : Int32)) D_900_629 rfl ?_
      refine mjr_iadd D_900_630 ?_
      refine mjq_aX D_900_631 h (fun v128 h => ?_)
      refine mjq_vI (As := [.int v127, .int v128]) (rest := []) D_900_632 mr_13_78 V_350 rfl rfl rfl hR (Nat.le_refl _) h1 h2 h (fun v129 hp130 h => ?_)
      refine mjr_pop D_900_635 rfl ?_
      refine mjr_goto (tgt := 764) D_900_636 rfl ?_
      exact (t_900_764 hR h1 h2 hk18) _ _ _ _ _ h
    refine mjq_tsw (c := (15 : Int32)) (tgt := 639) D_900_33 (by decide) (by decide) rfl rfl h (fun h => ?_) (fun n131 h => ?_)
    · refine mjr_aload_n (x := l1) D_900_639 rfl ?_
      refine mjr_aload_n (x := 1000020) D_900_640 rfl ?_
      refine mjr_iload_n (x := l3) D_900_641 rfl ?_
      refine mjq_ic (v := (1 : Int32)) D_900_642 rfl ?_
      refine mjr_iadd D_900_643 ?_
      refine mjq_aX D_900_644 h (fun v132 h => ?_)
      refine mjr_aload_n (x := 1000020) D_900_645 rfl ?_
      refine mjr_iload_n (x := l3) D_900_646 rfl ?_
      refine mjq_ic (v := (2 : Int32)) D_900_647 rfl ?_
      refine mjr_iadd D_900_648 ?_
      refine mjq_aX D_900_649 h (fun v133 h => ?_)
      refine mjq_vI (As := [.int v132, .int v133]) (rest := []) D_900_650 mr_13_79 V_220 rfl rfl rfl hR (Nat.le_refl _) h1 h2 h (fun v134 hp135 h => ?_)
      refine mjr_pop D_900_653 rfl ?_
      refine mjr_aload_n (x := l2) D_900_654 rfl ?_
      refine mjr_aload_n (x := 1000020) D_900_655 rfl ?_
      refine mjr_iload_n (x := l3) D_900_656 rfl ?_
      refine mjq_ic (v := (1 : Int32)) D_900_657 rfl ?_
      refine mjr_iadd D_900_658 ?_
      refine mjq_aX D_900_659 h (fun v136 h => ?_)
      refine mjr_aload_n (x := 1000020) D_900_660 rfl ?_
      refine mjr_iload_n (x := l3) D_900_661 rfl ?_
      refine mjq_ic (v := (2 : Int32)) D_900_662 rfl ?_
      refine mjr_iadd D_900_663 ?_
      refine mjq_aX D_900_664 h (fun v137 h => ?_)
      refine mjq_vI (As := [.int v136, .int v137]) (rest := []) D_900_665 mr_13_82 V_245 rfl rfl rfl hR (Nat.le_refl _) h1 h2 h (fun v138 hp139 h => ?_)
      refine mjr_pop D_900_668 rfl ?_
      refine mjr_goto (tgt := 764) D_900_669 rfl ?_
      exact (t_900_764 hR h1 h2 hk18) _ _ _ _ _ h
    refine mjq_tsw (c := (16 : Int32)) (tgt := 672) D_900_33 (by decide) (by decide) rfl rfl h (fun h => ?_) (fun n140 h => ?_)
    · refine mjr_aload_n (x := l1) D_900_672 rfl ?_
      refine mjr_aload_n (x := 1000020) D_900_673 rfl ?_
      refine mjr_iload_n (x := l3) D_900_674 rfl ?_
      refine mjq_ic (v := (1 : Int32)) D_900_675 rfl ?_
      refine mjr_iadd D_900_676 ?_
      refine mjq_aX D_900_677 h (fun v141 h => ?_)
      refine mjq_vI (As := [.int v141]) (rest := []) D_900_678 mr_13_83 V_221 rfl rfl rfl hR (Nat.le_refl _) h1 h2 h (fun v142 hp143 h => ?_)
      refine mjr_pop D_900_681 rfl ?_
      refine mjr_aload_n (x := l2) D_900_682 rfl ?_
      refine mjr_aload_n (x := 1000020) D_900_683 rfl ?_
      refine mjr_iload_n (x := l3) D_900_684 rfl ?_
      refine mjq_ic (v := (1 : Int32)) D_900_685 rfl ?_
      refine mjr_iadd D_900_686 ?_
      refine mjq_aX D_900_687 h (fun v144 h => ?_)
      refine mjq_vI (As := [.int v144]) (rest := []) D_900_688 mr_13_86 V_257 rfl rfl rfl hR (Nat.le_refl _) h1 h2 h (fun v145 hp146 h => ?_)
      refine mjr_pop D_900_691 rfl ?_
      refine mjr_goto (tgt := 764) D_900_692 rfl ?_
      exact (t_900_764 hR h1 h2 hk18) _ _ _ _ _ h
    refine mjq_tsw (c := (17 : Int32)) (tgt := 695) D_900_33 (by decide) (by decide) rfl rfl h (fun h => ?_) (fun n147 h => ?_)
    · refine mjr_aload_n (x := l1) D_900_695 rfl ?_
      refine mjq_vI (As := []) (rest := []) D_900_696 mr_13_87 V_222 rfl rfl rfl hR (Nat.le_refl _) h1 h2 h (fun v148 hp149 h => ?_)
      refine mjr_pop D_900_699 rfl ?_
      refine mjr_aload_n (x := l2) D_900_700 rfl ?_
      refine mjq_vI (As := []) (rest := []) D_900_701 mr_13_91 V_251 rfl rfl rfl hR (Nat.le_refl _) h1 h2 h (fun v150 hp151 h => ?_)
      refine mjr_pop D_900_704 rfl ?_
      refine mjr_goto (tgt := 764) D_900_705 rfl ?_
      exact (t_900_764 hR h1 h2 hk18) _ _ _ _ _ h
    refine mjq_tsw (c := (18 : Int32)) (tgt := 708) D_900_33 (by decide) (by decide) rfl rfl h (fun h => ?_) (fun n152 h => ?_)
    · refine mjr_aload_n (x := l1) D_900_708 rfl ?_
      refine mjr_aload_n (x := 1000020) D_900_709 rfl ?_
      refine mjr_iload_n (x := l3) D_900_710 rfl ?_
      refine mjq_ic (v := (1 : Int32)) D_900_711 rfl ?_
      refine mjr_iadd D_900_712 ?_
      refine mjq_aX D_900_713 h (fun v153 h => ?_)
      refine mjq_vI (As := [.int v153]) (rest := []) D_900_714 mr_13_92 V_223 rfl rfl rfl hR (Nat.le_refl _) h1 h2 h (fun v154 hp155 h => ?_)
      refine mjr_pop D_900_717 rfl ?_
      refine mjr_aload_n (x := l2) D_900_718 rfl ?_
      refine mjr_aload_n (x := 1000020) D_900_719 rfl ?_
      refine mjr_iload_n (x := l3) D_900_720 rfl ?_
      refine mjq_ic (v := (1 : Int32)) D_900_721 rfl ?_
      refine mjr_iadd D_900_722 ?_
      refine mjq_aX D_900_723 h (fun v156 h => ?_)
      refine mjq_vI (As := [.int v156]) (rest := []) D_900_724 mr_13_95 V_255 rfl rfl rfl hR (Nat.le_refl _) h1 h2 h (fun v157 hp158 h => ?_)
      refine mjr_pop D_900_727 rfl ?_
      refine mjr_goto (tgt := 764) D_900_728 rfl ?_
      exact (t_900_764 hR h1 h2 hk18) _ _ _ _ _ h
    refine mjq_tsw (c := (19 : Int32)) (tgt := 731) D_900_33 (by decide) (by decide) rfl rfl h (fun h => ?_) (fun n159 h => ?_)
    · refine mjr_aload_n (x := l1) D_900_731 rfl ?_
      refine mjr_aload_n (x := 1000020) D_900_732 rfl ?_
      refine mjr_iload_n (x := l3) D_900_733 rfl ?_
      refine mjq_ic (v := (1 : Int32)) D_900_734 rfl ?_
      refine mjr_iadd D_900_735 ?_
      refine mjq_aX D_900_736 h (fun v160 h => ?_)
      refine mjr_aload_n (x := 1000020) D_900_737 rfl ?_
      refine mjr_iload_n (x := l3) D_900_738 rfl ?_
      refine mjq_ic (v := (2 : Int32)) D_900_739 rfl ?_
      refine mjr_iadd D_900_740 ?_
      refine mjq_aX D_900_741 h (fun v161 h => ?_)
      refine mjq_vI (As := [.int v160, .int v161]) (rest := []) D_900_742 mr_13_96 V_224 rfl rfl rfl hR (Nat.le_refl _) h1 h2 h (fun v162 hp163 h => ?_)
      refine mjr_aload_n (x := l2) D_900_745 rfl ?_
      refine mjr_aload_n (x := 1000020) D_900_746 rfl ?_
      refine mjr_iload_n (x := l3) D_900_747 rfl ?_
      refine mjq_ic (v := (1 : Int32)) D_900_748 rfl ?_
      refine mjr_iadd D_900_749 ?_
      refine mjq_aX D_900_750 h (fun v164 h => ?_)
      refine mjr_aload_n (x := 1000020) D_900_751 rfl ?_
      refine mjr_iload_n (x := l3) D_900_752 rfl ?_
      refine mjq_ic (v := (2 : Int32)) D_900_753 rfl ?_
      refine mjr_iadd D_900_754 ?_
      refine mjq_aX D_900_755 h (fun v165 h => ?_)
      refine mjq_vI (As := [.int v164, .int v165]) (rest := [.int v162]) D_900_756 mr_13_99 V_256 rfl rfl rfl hR (Nat.le_refl _) h1 h2 h (fun v166 hp167 h => ?_)
      refine mjq_icmp_eq (tgt := 764) D_900_759 rfl h (fun h => ?_) (fun h => ?_)
      · exact (t_900_764 hR h1 h2 hk18) _ _ _ _ _ h
      · refine mjq_ic (v := (0 : Int32)) D_900_762 rfl ?_
        exact mjr_ireturn D_900_763 rfl rfl h1 h2 (Option.some.inj h)
    refine mjr_tableOut (tgt := 764) D_900_33 (mj_swout [(0 : Int32), (1 : Int32), (2 : Int32), (3 : Int32), (4 : Int32), (5 : Int32), (6 : Int32), (7 : Int32), (8 : Int32), (9 : Int32), (10 : Int32), (11 : Int32), (12 : Int32), (13 : Int32), (14 : Int32), (15 : Int32), (16 : Int32), (17 : Int32), (18 : Int32), (19 : Int32)] (by decide) (mj_all1 n2 (mj_all1 n17 (mj_all1 n20 (mj_all1 n27 (mj_all1 n36 (mj_all1 n47 (mj_all1 n56 (mj_all1 n63 (mj_all1 n70 (mj_all1 n77 (mj_all1 n86 (mj_all1 n95 (mj_all1 n104 (mj_all1 n113 (mj_all1 n122 (mj_all1 n131 (mj_all1 n140 (mj_all1 n147 (mj_all1 n152 (mj_all1 n159 mj_all0))))))))))))))))))))) rfl ?_
    exact (t_900_764 hR h1 h2 hk18) _ _ _ _ _ h
noncomputable def L_900_18 (R : mjR) (L : Nat) (xs : Nat → Int32) (n : Nat) : Nat → Nat → Int32 → mjH → mjU := Nat.rec (motive := fun _ => Nat → Nat → Int32 → mjH → mjU) (fun _ _ _ _ => none) (fun _ self => b_900_18 R L xs self) n
theorem T_900_18 {L : Nat} {xs : Nat → Int32} {d C S kc ks : Nat} {R : mjR} (hR : mjC R d) (h1 : kc ≤ C) (h2 : ks ≤ S) (n : Nat) : P_900_18 (mjXs L xs) (d + 1) C S kc ks (L_900_18 R L xs n) := by
  induction n with
  | zero => intro _ _ _ _ _ h; exact mj_no h
  | succ n ih => exact t_900_18 hR h1 h2 ih
