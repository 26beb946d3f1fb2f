/-! Walks (printed by my program). -/
theorem dX5_own_0 : decode cX5_own 0 = .ok (.aload_n 0, 1) := by decide +kernel
theorem dX5_own_1 : decode cX5_own 1 = .ok (.aload_n 0, 1) := by decide +kernel
theorem dX5_own_2 : decode cX5_own 2 = .ok (.getfield 11, 3) := by decide +kernel
theorem dX5_own_5 : decode cX5_own 5 = .ok (.aload_n 0, 1) := by decide +kernel
theorem dX5_own_6 : decode cX5_own 6 = .ok (.getfield 38, 3) := by decide +kernel
theorem dX5_own_9 : decode cX5_own 9 = .ok (.iaload, 1) := by decide +kernel
theorem dX5_own_10 : decode cX5_own 10 = .ok (.iload_n 1, 1) := by decide +kernel
theorem dX5_own_11 : decode cX5_own 11 = .ok (.iload_n 2, 1) := by decide +kernel
theorem dX5_own_12 : decode cX5_own 12 = .ok (.iload_n 3, 1) := by decide +kernel
theorem dX5_own_13 : decode cX5_own 13 = .ok (.invokevirtual 41, 3) := by decide +kernel
theorem dX5_own_16 : decode cX5_own 16 = .ok (.ireturn, 1) := by decide +kernel
theorem dX5_runBody_0 : decode cX5_runBody 0 = .ok (.aload_n 0, 1) := by decide +kernel
theorem dX5_runBody_1 : decode cX5_runBody 1 = .ok (.getfield 29, 3) := by decide +kernel
theorem dX5_runBody_4 : decode cX5_runBody 4 = .ok (.bipush 24, 2) := by decide +kernel
theorem dX5_runBody_6 : decode cX5_runBody 6 = .ok (.if_icmp .ge 13, 3) := by decide +kernel
theorem dX5_runBody_9 : decode cX5_runBody 9 = .ok (.aload_n 0, 1) := by decide +kernel
theorem dX5_runBody_10 : decode cX5_runBody 10 = .ok (.getfield 15, 3) := by decide +kernel
theorem dX5_runBody_13 : decode cX5_runBody 13 = .ok (.aload_n 0, 1) := by decide +kernel
theorem dX5_runBody_14 : decode cX5_runBody 14 = .ok (.getfield 29, 3) := by decide +kernel
theorem dX5_runBody_17 : decode cX5_runBody 17 = .ok (.iload_n 1, 1) := by decide +kernel
theorem dX5_runBody_18 : decode cX5_runBody 18 = .ok (.iastore, 1) := by decide +kernel
theorem dX5_runBody_19 : decode cX5_runBody 19 = .ok (.aload_n 0, 1) := by decide +kernel
theorem dX5_runBody_20 : decode cX5_runBody 20 = .ok (.dup, 1) := by decide +kernel
theorem dX5_runBody_21 : decode cX5_runBody 21 = .ok (.getfield 29, 3) := by decide +kernel
theorem dX5_runBody_24 : decode cX5_runBody 24 = .ok (.iconst 1, 1) := by decide +kernel
theorem dX5_runBody_25 : decode cX5_runBody 25 = .ok (.iadd, 1) := by decide +kernel
theorem dX5_runBody_26 : decode cX5_runBody 26 = .ok (.putfield 29, 3) := by decide +kernel
theorem dX5_runBody_29 : decode cX5_runBody 29 = .ok (.iload_n 1, 1) := by decide +kernel
theorem dX5_runBody_30 : decode cX5_runBody 30 = .ok (.lookupswitch 278 #[(1, 114), (2, 121), (10, 139), (11, 150), (20, 157), (30, 169), (40, 180), (41, 192), (50, 204), (60, 223), (70, 235), (80, 247), (81, 266)], 114) := by decide +kernel
theorem dX5_runBody_144 : decode cX5_runBody 144 = .ok (.iload_n 3, 1) := by decide +kernel
theorem dX5_runBody_145 : decode cX5_runBody 145 = .ok (.aload_n 0, 1) := by decide +kernel
theorem dX5_runBody_146 : decode cX5_runBody 146 = .ok (.getfield 38, 3) := by decide +kernel
theorem dX5_runBody_149 : decode cX5_runBody 149 = .ok (.iadd, 1) := by decide +kernel
theorem dX5_runBody_150 : decode cX5_runBody 150 = .ok (.ireturn, 1) := by decide +kernel
theorem dX5_runBody_151 : decode cX5_runBody 151 = .ok (.aload_n 0, 1) := by decide +kernel
theorem dX5_runBody_152 : decode cX5_runBody 152 = .ok (.iconst 1, 1) := by decide +kernel
theorem dX5_runBody_153 : decode cX5_runBody 153 = .ok (.iload_n 3, 1) := by decide +kernel
theorem dX5_runBody_154 : decode cX5_runBody 154 = .ok (.iload 4, 2) := by decide +kernel
theorem dX5_runBody_156 : decode cX5_runBody 156 = .ok (.invokevirtual 51, 3) := by decide +kernel
theorem dX5_runBody_159 : decode cX5_runBody 159 = .ok (.aload_n 0, 1) := by decide +kernel
theorem dX5_runBody_160 : decode cX5_runBody 160 = .ok (.iconst 2, 1) := by decide +kernel
theorem dX5_runBody_161 : decode cX5_runBody 161 = .ok (.iconst 1, 1) := by decide +kernel
theorem dX5_runBody_162 : decode cX5_runBody 162 = .ok (.iload 4, 2) := by decide +kernel
theorem dX5_runBody_164 : decode cX5_runBody 164 = .ok (.invokevirtual 51, 3) := by decide +kernel
theorem dX5_runBody_167 : decode cX5_runBody 167 = .ok (.isub, 1) := by decide +kernel
theorem dX5_runBody_168 : decode cX5_runBody 168 = .ok (.ireturn, 1) := by decide +kernel
theorem dX5_runBody_169 : decode cX5_runBody 169 = .ok (.aload_n 0, 1) := by decide +kernel
theorem dX5_runBody_170 : decode cX5_runBody 170 = .ok (.iconst 0, 1) := by decide +kernel
theorem dX5_runBody_171 : decode cX5_runBody 171 = .ok (.iload_n 3, 1) := by decide +kernel
theorem dX5_runBody_172 : decode cX5_runBody 172 = .ok (.iload 4, 2) := by decide +kernel
theorem dX5_runBody_174 : decode cX5_runBody 174 = .ok (.invokevirtual 51, 3) := by decide +kernel
theorem dX5_runBody_177 : decode cX5_runBody 177 = .ok (.iconst 2, 1) := by decide +kernel
theorem dX5_runBody_178 : decode cX5_runBody 178 = .ok (.imul, 1) := by decide +kernel
theorem dX5_runBody_179 : decode cX5_runBody 179 = .ok (.ireturn, 1) := by decide +kernel
theorem dX5_runBody_180 : decode cX5_runBody 180 = .ok (.iload_n 3, 1) := by decide +kernel
theorem dX5_runBody_181 : decode cX5_runBody 181 = .ok (.aload_n 0, 1) := by decide +kernel
theorem dX5_runBody_182 : decode cX5_runBody 182 = .ok (.getfield 38, 3) := by decide +kernel
theorem dX5_runBody_185 : decode cX5_runBody 185 = .ok (.ixor, 1) := by decide +kernel
theorem dX5_runBody_186 : decode cX5_runBody 186 = .ok (.ireturn, 1) := by decide +kernel
theorem dX5_runBody_187 : decode cX5_runBody 187 = .ok (.aload_n 0, 1) := by decide +kernel
theorem dX5_runBody_188 : decode cX5_runBody 188 = .ok (.iload_n 2, 1) := by decide +kernel
theorem dX5_runBody_189 : decode cX5_runBody 189 = .ok (.iconst 0, 1) := by decide +kernel
theorem dX5_runBody_190 : decode cX5_runBody 190 = .ok (.iload_n 3, 1) := by decide +kernel
theorem dX5_runBody_191 : decode cX5_runBody 191 = .ok (.iload 4, 2) := by decide +kernel
theorem dX5_runBody_193 : decode cX5_runBody 193 = .ok (.invokevirtual 41, 3) := by decide +kernel
theorem dX5_runBody_196 : decode cX5_runBody 196 = .ok (.iconst 3, 1) := by decide +kernel
theorem dX5_runBody_197 : decode cX5_runBody 197 = .ok (.iadd, 1) := by decide +kernel
theorem dX5_runBody_198 : decode cX5_runBody 198 = .ok (.ireturn, 1) := by decide +kernel
theorem dX5_runBody_199 : decode cX5_runBody 199 = .ok (.aload_n 0, 1) := by decide +kernel
theorem dX5_runBody_200 : decode cX5_runBody 200 = .ok (.iload_n 2, 1) := by decide +kernel
theorem dX5_runBody_201 : decode cX5_runBody 201 = .ok (.iconst 1, 1) := by decide +kernel
theorem dX5_runBody_202 : decode cX5_runBody 202 = .ok (.iload_n 3, 1) := by decide +kernel
theorem dX5_runBody_203 : decode cX5_runBody 203 = .ok (.iload 4, 2) := by decide +kernel
theorem dX5_runBody_205 : decode cX5_runBody 205 = .ok (.invokevirtual 41, 3) := by decide +kernel
theorem dX5_runBody_208 : decode cX5_runBody 208 = .ok (.ineg, 1) := by decide +kernel
theorem dX5_runBody_209 : decode cX5_runBody 209 = .ok (.ireturn, 1) := by decide +kernel
theorem dX5_runBody_210 : decode cX5_runBody 210 = .ok (.aload_n 0, 1) := by decide +kernel
theorem dX5_runBody_211 : decode cX5_runBody 211 = .ok (.iload_n 2, 1) := by decide +kernel
theorem dX5_runBody_212 : decode cX5_runBody 212 = .ok (.iconst 2, 1) := by decide +kernel
theorem dX5_runBody_213 : decode cX5_runBody 213 = .ok (.iload_n 3, 1) := by decide +kernel
theorem dX5_runBody_214 : decode cX5_runBody 214 = .ok (.iload 4, 2) := by decide +kernel
theorem dX5_runBody_216 : decode cX5_runBody 216 = .ok (.invokevirtual 41, 3) := by decide +kernel
theorem dX5_runBody_219 : decode cX5_runBody 219 = .ok (.iconst 3, 1) := by decide +kernel
theorem dX5_runBody_220 : decode cX5_runBody 220 = .ok (.imul, 1) := by decide +kernel
theorem dX5_runBody_221 : decode cX5_runBody 221 = .ok (.ireturn, 1) := by decide +kernel
theorem dX5_runBody_222 : decode cX5_runBody 222 = .ok (.aload_n 0, 1) := by decide +kernel
theorem dX5_runBody_223 : decode cX5_runBody 223 = .ok (.iload_n 2, 1) := by decide +kernel
theorem dX5_runBody_224 : decode cX5_runBody 224 = .ok (.iconst 1, 1) := by decide +kernel
theorem dX5_runBody_225 : decode cX5_runBody 225 = .ok (.iload_n 3, 1) := by decide +kernel
theorem dX5_runBody_226 : decode cX5_runBody 226 = .ok (.iconst 1, 1) := by decide +kernel
theorem dX5_runBody_227 : decode cX5_runBody 227 = .ok (.iadd, 1) := by decide +kernel
theorem dX5_runBody_228 : decode cX5_runBody 228 = .ok (.iload 4, 2) := by decide +kernel
theorem dX5_runBody_230 : decode cX5_runBody 230 = .ok (.invokevirtual 41, 3) := by decide +kernel
theorem dX5_runBody_233 : decode cX5_runBody 233 = .ok (.ireturn, 1) := by decide +kernel
theorem dX5_runBody_234 : decode cX5_runBody 234 = .ok (.aload_n 0, 1) := by decide +kernel
theorem dX5_runBody_235 : decode cX5_runBody 235 = .ok (.iload_n 2, 1) := by decide +kernel
theorem dX5_runBody_236 : decode cX5_runBody 236 = .ok (.iconst 2, 1) := by decide +kernel
theorem dX5_runBody_237 : decode cX5_runBody 237 = .ok (.iload_n 3, 1) := by decide +kernel
theorem dX5_runBody_238 : decode cX5_runBody 238 = .ok (.iload 4, 2) := by decide +kernel
theorem dX5_runBody_240 : decode cX5_runBody 240 = .ok (.invokevirtual 41, 3) := by decide +kernel
theorem dX5_runBody_243 : decode cX5_runBody 243 = .ok (.aload_n 0, 1) := by decide +kernel
theorem dX5_runBody_244 : decode cX5_runBody 244 = .ok (.iconst 0, 1) := by decide +kernel
theorem dX5_runBody_245 : decode cX5_runBody 245 = .ok (.iconst 2, 1) := by decide +kernel
theorem dX5_runBody_246 : decode cX5_runBody 246 = .ok (.iload 4, 2) := by decide +kernel
theorem dX5_runBody_248 : decode cX5_runBody 248 = .ok (.invokevirtual 51, 3) := by decide +kernel
theorem dX5_runBody_251 : decode cX5_runBody 251 = .ok (.isub, 1) := by decide +kernel
theorem dX5_runBody_252 : decode cX5_runBody 252 = .ok (.ireturn, 1) := by decide +kernel
theorem dX5_runBody_253 : decode cX5_runBody 253 = .ok (.aload_n 0, 1) := by decide +kernel
theorem dX5_runBody_254 : decode cX5_runBody 254 = .ok (.iload_n 2, 1) := by decide +kernel
theorem dX5_runBody_255 : decode cX5_runBody 255 = .ok (.iconst 3, 1) := by decide +kernel
theorem dX5_runBody_256 : decode cX5_runBody 256 = .ok (.iload_n 3, 1) := by decide +kernel
theorem dX5_runBody_257 : decode cX5_runBody 257 = .ok (.iload 4, 2) := by decide +kernel
theorem dX5_runBody_259 : decode cX5_runBody 259 = .ok (.invokevirtual 41, 3) := by decide +kernel
theorem dX5_runBody_262 : decode cX5_runBody 262 = .ok (.iconst 5, 1) := by decide +kernel
theorem dX5_runBody_263 : decode cX5_runBody 263 = .ok (.ixor, 1) := by decide +kernel
theorem dX5_runBody_264 : decode cX5_runBody 264 = .ok (.ireturn, 1) := by decide +kernel
theorem dX5_runBody_265 : decode cX5_runBody 265 = .ok (.aload_n 0, 1) := by decide +kernel
theorem dX5_runBody_266 : decode cX5_runBody 266 = .ok (.iload_n 2, 1) := by decide +kernel
theorem dX5_runBody_267 : decode cX5_runBody 267 = .ok (.iconst 0, 1) := by decide +kernel
theorem dX5_runBody_268 : decode cX5_runBody 268 = .ok (.iload_n 3, 1) := by decide +kernel
theorem dX5_runBody_269 : decode cX5_runBody 269 = .ok (.iload 4, 2) := by decide +kernel
theorem dX5_runBody_271 : decode cX5_runBody 271 = .ok (.invokevirtual 41, 3) := by decide +kernel
theorem dX5_runBody_274 : decode cX5_runBody 274 = .ok (.iconst 2, 1) := by decide +kernel
theorem dX5_runBody_275 : decode cX5_runBody 275 = .ok (.imul, 1) := by decide +kernel
theorem dX5_runBody_276 : decode cX5_runBody 276 = .ok (.ireturn, 1) := by decide +kernel
theorem dX5_runBody_277 : decode cX5_runBody 277 = .ok (.aload_n 0, 1) := by decide +kernel
theorem dX5_runBody_278 : decode cX5_runBody 278 = .ok (.iload_n 2, 1) := by decide +kernel
theorem dX5_runBody_279 : decode cX5_runBody 279 = .ok (.iconst 1, 1) := by decide +kernel
theorem dX5_runBody_280 : decode cX5_runBody 280 = .ok (.iload_n 3, 1) := by decide +kernel
theorem dX5_runBody_281 : decode cX5_runBody 281 = .ok (.iload 4, 2) := by decide +kernel
theorem dX5_runBody_283 : decode cX5_runBody 283 = .ok (.invokevirtual 41, 3) := by decide +kernel
theorem dX5_runBody_286 : decode cX5_runBody 286 = .ok (.aload_n 0, 1) := by decide +kernel
theorem dX5_runBody_287 : decode cX5_runBody 287 = .ok (.iconst 2, 1) := by decide +kernel
theorem dX5_runBody_288 : decode cX5_runBody 288 = .ok (.iconst 2, 1) := by decide +kernel
theorem dX5_runBody_289 : decode cX5_runBody 289 = .ok (.iload 4, 2) := by decide +kernel
theorem dX5_runBody_291 : decode cX5_runBody 291 = .ok (.invokevirtual 51, 3) := by decide +kernel
theorem dX5_runBody_294 : decode cX5_runBody 294 = .ok (.iadd, 1) := by decide +kernel
theorem dX5_runBody_295 : decode cX5_runBody 295 = .ok (.ireturn, 1) := by decide +kernel
theorem dX5_runBody_296 : decode cX5_runBody 296 = .ok (.aload_n 0, 1) := by decide +kernel
theorem dX5_runBody_297 : decode cX5_runBody 297 = .ok (.iload_n 2, 1) := by decide +kernel
theorem dX5_runBody_298 : decode cX5_runBody 298 = .ok (.iconst 3, 1) := by decide +kernel
theorem dX5_runBody_299 : decode cX5_runBody 299 = .ok (.iload_n 3, 1) := by decide +kernel
theorem dX5_runBody_300 : decode cX5_runBody 300 = .ok (.iload 4, 2) := by decide +kernel
theorem dX5_runBody_302 : decode cX5_runBody 302 = .ok (.invokevirtual 41, 3) := by decide +kernel
theorem dX5_runBody_305 : decode cX5_runBody 305 = .ok (.iconst 1, 1) := by decide +kernel
theorem dX5_runBody_306 : decode cX5_runBody 306 = .ok (.isub, 1) := by decide +kernel
theorem dX5_runBody_307 : decode cX5_runBody 307 = .ok (.ireturn, 1) := by decide +kernel
theorem dX5_runBody_308 : decode cX5_runBody 308 = .ok (.iconst 0, 1) := by decide +kernel
theorem dX5_runBody_309 : decode cX5_runBody 309 = .ok (.ireturn, 1) := by decide +kernel
theorem dX5_runs_0 : decode cX5_runs 0 = .ok (.iload_n 1, 1) := by decide +kernel
theorem dX5_runs_1 : decode cX5_runs 1 = .ok (.istore 5, 2) := by decide +kernel
theorem dX5_runs_3 : decode cX5_runs 3 = .ok (.iconst 0, 1) := by decide +kernel
theorem dX5_runs_4 : decode cX5_runs 4 = .ok (.istore 6, 2) := by decide +kernel
theorem dX5_runs_6 : decode cX5_runs 6 = .ok (.iload 6, 2) := by decide +kernel
theorem dX5_runs_8 : decode cX5_runs 8 = .ok (.bipush 8, 2) := by decide +kernel
theorem dX5_runs_10 : decode cX5_runs 10 = .ok (.if_icmp .ge 75, 3) := by decide +kernel
theorem dX5_runs_13 : decode cX5_runs 13 = .ok (.iload 5, 2) := by decide +kernel
theorem dX5_runs_15 : decode cX5_runs 15 = .ok (.ifCond .lt 70, 3) := by decide +kernel
theorem dX5_runs_18 : decode cX5_runs 18 = .ok (.iload 5, 2) := by decide +kernel
theorem dX5_runs_20 : decode cX5_runs 20 = .ok (.bipush 8, 2) := by decide +kernel
theorem dX5_runs_22 : decode cX5_runs 22 = .ok (.if_icmp .ge 63, 3) := by decide +kernel
theorem dX5_runs_25 : decode cX5_runs 25 = .ok (.getstatic 45, 3) := by decide +kernel
theorem dX5_runs_28 : decode cX5_runs 28 = .ok (.iload 5, 2) := by decide +kernel
theorem dX5_runs_30 : decode cX5_runs 30 = .ok (.iconst 4, 1) := by decide +kernel
theorem dX5_runs_31 : decode cX5_runs 31 = .ok (.imul, 1) := by decide +kernel
theorem dX5_runs_32 : decode cX5_runs 32 = .ok (.iload_n 2, 1) := by decide +kernel
theorem dX5_runs_33 : decode cX5_runs 33 = .ok (.iadd, 1) := by decide +kernel
theorem dX5_runs_34 : decode cX5_runs 34 = .ok (.iaload, 1) := by decide +kernel
theorem dX5_runs_35 : decode cX5_runs 35 = .ok (.istore 7, 2) := by decide +kernel
theorem dX5_runs_37 : decode cX5_runs 37 = .ok (.iload 7, 2) := by decide +kernel
theorem dX5_runs_39 : decode cX5_runs 39 = .ok (.ifCond .eq 32, 3) := by decide +kernel
theorem dX5_runs_42 : decode cX5_runs 42 = .ok (.iload 4, 2) := by decide +kernel
theorem dX5_runs_44 : decode cX5_runs 44 = .ok (.bipush 40, 2) := by decide +kernel
theorem dX5_runs_46 : decode cX5_runs 46 = .ok (.if_icmp .ge 23, 3) := by decide +kernel
theorem dX5_runs_49 : decode cX5_runs 49 = .ok (.aload_n 0, 1) := by decide +kernel
theorem dX5_runs_50 : decode cX5_runs 50 = .ok (.iload 7, 2) := by decide +kernel
theorem dX5_runs_52 : decode cX5_runs 52 = .ok (.getstatic 26, 3) := by decide +kernel
theorem dX5_runs_55 : decode cX5_runs 55 = .ok (.iload 5, 2) := by decide +kernel
theorem dX5_runs_57 : decode cX5_runs 57 = .ok (.iaload, 1) := by decide +kernel
theorem dX5_runs_58 : decode cX5_runs 58 = .ok (.iload_n 3, 1) := by decide +kernel
theorem dX5_runs_59 : decode cX5_runs 59 = .ok (.iload 4, 2) := by decide +kernel
theorem dX5_runs_61 : decode cX5_runs 61 = .ok (.iconst 1, 1) := by decide +kernel
theorem dX5_runs_62 : decode cX5_runs 62 = .ok (.iadd, 1) := by decide +kernel
theorem dX5_runs_63 : decode cX5_runs 63 = .ok (.invokevirtual 48, 3) := by decide +kernel
theorem dX5_runs_66 : decode cX5_runs 66 = .ok (.goto 4, 3) := by decide +kernel
theorem dX5_runs_69 : decode cX5_runs 69 = .ok (.iconst 0, 1) := by decide +kernel
theorem dX5_runs_70 : decode cX5_runs 70 = .ok (.ireturn, 1) := by decide +kernel
theorem dX5_runs_71 : decode cX5_runs 71 = .ok (.getstatic 26, 3) := by decide +kernel
theorem dX5_runs_74 : decode cX5_runs 74 = .ok (.iload 5, 2) := by decide +kernel
theorem dX5_runs_76 : decode cX5_runs 76 = .ok (.iaload, 1) := by decide +kernel
theorem dX5_runs_77 : decode cX5_runs 77 = .ok (.istore 5, 2) := by decide +kernel
theorem dX5_runs_79 : decode cX5_runs 79 = .ok (.iinc 6 1, 3) := by decide +kernel
theorem dX5_runs_82 : decode cX5_runs 82 = .ok (.goto (-76), 3) := by decide +kernel
theorem dX5_runs_85 : decode cX5_runs 85 = .ok (.iconst 0, 1) := by decide +kernel
theorem dX5_runs_86 : decode cX5_runs 86 = .ok (.ireturn, 1) := by decide +kernel
theorem bX5_own_0 {K : KT} {g : GT} {cm sm : Nat} {cs : Nat × Nat} {fr : Nat} {c0 : Nat} {x1 : Int} {x2 : Int} {x3 : Int} {cl : Nat → List Int → St → Option (Int × St)} {frc : Nat} {r : Int} {σ' : St} (hC : Ctx K g RX5 cX5_own 4 fr cm sm) (hcs : cs.1 ≤ cm ∧ cs.2 ≤ sm) (h0 : isO 5 c0 = true) (hf : frc + 1 ≤ fr) (hf0 : 0 ≤ fr) (hl0 : ∀ (a0 : Int) (a1 : Int) (a2 : Int) (r : Int) (σ σ' : St), cl 0 [a0, a1, a2] σ = some (r, σ') → Cn (Kl K) g yX5_own cX5_own 4 (some .int) frc 0 0 [vr c0, vi a0, vi a1, vi a2] (SH0, σ) (some (vi r)) (SH0, σ')) (hl1 : ∀ (a0 : Int) (a1 : Int) (a2 : Int) (a3 : Int) (r : Int) (σ σ' : St), cl 1 [a0, a1, a2, a3] σ = some (r, σ') → Cn (Kl K) g yX5_runBody cX5_runBody 5 (some .int) frc 0 0 [vr c0, vi a0, vi a1, vi a2, vi a3] (SH0, σ) (some (vi r)) (SH0, σ')) (hl2 : ∀ (a0 : Int) (a1 : Int) (a2 : Int) (a3 : Int) (r : Int) (σ σ' : St), cl 2 [a0, a1, a2, a3] σ = some (r, σ') → Cn (Kl K) g yX5_runs cX5_runs 8 (some .int) frc 0 0 [vr c0, vi a0, vi a1, vi a2, vi a3] (SH0, σ) (some (vi r)) (SH0, σ')) (hR : RetI K g cX5_own 4 cs r (SH0, σ')) : ∀ (σ : St), fX5_own cl c0 x1 x2 x3 σ = some (r, σ') → G K g 4 cs 0 [(0, vr c0), (1, vi x1), (2, vi x2), (3, vi x3)] [] (SH0, σ) := by
  intro σ h
  unfold fX5_own at h
  refine g_aload_n hC dX5_own_0 0 rfl rfl ?_
  refine g_aload_n hC dX5_own_1 0 rfl rfl ?_
  refine g_getr hC dX5_own_2 lfRX5_11 (isO_spec h0) (ft_5_0 h0) ?_
  refine g_aload_n hC dX5_own_5 0 rfl rfl ?_
  refine g_geti hC dX5_own_6 lfRX5_38 (isO_spec h0) (ft_5_4 h0) ?_
  obtain ⟨b9, h⟩ := of_ite h
  refine g_iald hC dX5_own_9 (isA_spec (rf_5_0 h0)) b9 ?_
  refine g_iload_n hC dX5_own_10 1 rfl rfl ?_
  refine g_iload_n hC dX5_own_11 2 rfl rfl ?_
  refine g_iload_n hC dX5_own_12 3 rfl rfl ?_
  obtain ⟨⟨r1, s1⟩, e1, h⟩ := of_bind h
  try dsimp only at h
  refine s_callVi hC dX5_own_13 (hl2 _ _ _ _ _ _ _ e1) miX5_runs mvX5_runs mlRX5_41 (isO_spec h0) vc_5 rfl rfl (Nat.le_of_ble_eq_true rfl) hf (Nat.le_of_ble_eq_true rfl) hcs ?_
  exact ret_i h hR dX5_own_16
theorem bX5_runBody_19 {K : KT} {g : GT} {cm sm : Nat} {cs : Nat × Nat} {fr : Nat} {c0 : Nat} {x1 : Int} {x2 : Int} {x3 : Int} {x4 : Int} {cl : Nat → List Int → St → Option (Int × St)} {frc : Nat} {r : Int} {σ' : St} (hC : Ctx K g RX5 cX5_runBody 5 fr cm sm) (hcs : cs.1 ≤ cm ∧ cs.2 ≤ sm) (h0 : isO 5 c0 = true) (hf : frc + 1 ≤ fr) (hf0 : 0 ≤ fr) (hl0 : ∀ (a0 : Int) (a1 : Int) (a2 : Int) (r : Int) (σ σ' : St), cl 0 [a0, a1, a2] σ = some (r, σ') → Cn (Kl K) g yX5_own cX5_own 4 (some .int) frc 0 0 [vr c0, vi a0, vi a1, vi a2] (SH0, σ) (some (vi r)) (SH0, σ')) (hl1 : ∀ (a0 : Int) (a1 : Int) (a2 : Int) (a3 : Int) (r : Int) (σ σ' : St), cl 1 [a0, a1, a2, a3] σ = some (r, σ') → Cn (Kl K) g yX5_runBody cX5_runBody 5 (some .int) frc 0 0 [vr c0, vi a0, vi a1, vi a2, vi a3] (SH0, σ) (some (vi r)) (SH0, σ')) (hl2 : ∀ (a0 : Int) (a1 : Int) (a2 : Int) (a3 : Int) (r : Int) (σ σ' : St), cl 2 [a0, a1, a2, a3] σ = some (r, σ') → Cn (Kl K) g yX5_runs cX5_runs 8 (some .int) frc 0 0 [vr c0, vi a0, vi a1, vi a2, vi a3] (SH0, σ) (some (vi r)) (SH0, σ')) (hR : RetI K g cX5_runBody 5 cs r (SH0, σ')) : ∀ (σ : St), fX5_runBody_19 cl c0 x1 x2 x3 x4 σ = some (r, σ') → G K g 5 cs 19 [(0, vr c0), (1, vi x1), (2, vi x2), (3, vi x3), (4, vi x4)] [] (SH0, σ) := by
  intro σ h
  unfold fX5_runBody_19 at h
  refine g_aload_n hC dX5_runBody_19 0 rfl rfl ?_
  refine g_dup hC dX5_runBody_20 rfl ?_
  refine g_geti hC dX5_runBody_21 lfRX5_29 (isO_spec h0) (ft_5_3 h0) ?_
  refine g_iconst hC dX5_runBody_24 ok_1 ?_
  refine g_iadd hC dX5_runBody_25 ?_
  refine g_puti hC dX5_runBody_26 lfRX5_29 fp_5_3 (isO_spec h0) (ft_5_3 h0) ?_
  refine g_iload_n hC dX5_runBody_29 1 rfl rfl ?_
  by_cases h9 : x1 = 1
  · rw [if_pos h9] at h
    refine g_lookup hC dX5_runBody_30 (by decide) 114 144 (by (try dsimp only); rw [h9]; rfl) (by decide) ?_
    refine g_iload_n hC dX5_runBody_144 3 rfl rfl ?_
    refine g_aload_n hC dX5_runBody_145 0 rfl rfl ?_
    refine g_geti hC dX5_runBody_146 lfRX5_38 (isO_spec h0) (ft_5_4 h0) ?_
    refine g_iadd hC dX5_runBody_149 ?_
    exact ret_i h hR dX5_runBody_150
  rw [if_neg h9] at h
  have n1 := h9
  clear h9
  by_cases h9 : x1 = 2
  · rw [if_pos h9] at h
    refine g_lookup hC dX5_runBody_30 (by decide) 121 151 (by (try dsimp only); rw [h9]; rfl) (by decide) ?_
    refine g_aload_n hC dX5_runBody_151 0 rfl rfl ?_
    refine g_iconst hC dX5_runBody_152 ok_1 ?_
    refine g_iload_n hC dX5_runBody_153 3 rfl rfl ?_
    refine g_iload hC dX5_runBody_154 4 rfl ?_
    obtain ⟨⟨r2, s2⟩, e2, h⟩ := of_bind h
    try dsimp only at h
    refine s_callVi hC dX5_runBody_156 (hl0 _ _ _ _ _ _ e2) miX5_own mvX5_own mlRX5_51 (isO_spec h0) vc_5 rfl rfl (Nat.le_of_ble_eq_true rfl) hf (Nat.le_of_ble_eq_true rfl) hcs ?_
    refine g_aload_n hC dX5_runBody_159 0 rfl rfl ?_
    refine g_iconst hC dX5_runBody_160 ok_2 ?_
    refine g_iconst hC dX5_runBody_161 ok_1 ?_
    refine g_iload hC dX5_runBody_162 4 rfl ?_
    obtain ⟨⟨r3, s3⟩, e3, h⟩ := of_bind h
    try dsimp only at h
    refine s_callVi hC dX5_runBody_164 (hl0 _ _ _ _ _ _ e3) miX5_own mvX5_own mlRX5_51 (isO_spec h0) vc_5 rfl rfl (Nat.le_of_ble_eq_true rfl) hf (Nat.le_of_ble_eq_true rfl) hcs ?_
    refine g_isub hC dX5_runBody_167 ?_
    exact ret_i h hR dX5_runBody_168
  rw [if_neg h9] at h
  have n4 := h9
  clear h9
  by_cases h9 : x1 = 10
  · rw [if_pos h9] at h
    refine g_lookup hC dX5_runBody_30 (by decide) 139 169 (by (try dsimp only); rw [h9]; rfl) (by decide) ?_
    refine g_aload_n hC dX5_runBody_169 0 rfl rfl ?_
    refine g_iconst hC dX5_runBody_170 ok_0 ?_
    refine g_iload_n hC dX5_runBody_171 3 rfl rfl ?_
    refine g_iload hC dX5_runBody_172 4 rfl ?_
    obtain ⟨⟨r5, s5⟩, e5, h⟩ := of_bind h
    try dsimp only at h
    refine s_callVi hC dX5_runBody_174 (hl0 _ _ _ _ _ _ e5) miX5_own mvX5_own mlRX5_51 (isO_spec h0) vc_5 rfl rfl (Nat.le_of_ble_eq_true rfl) hf (Nat.le_of_ble_eq_true rfl) hcs ?_
    refine g_iconst hC dX5_runBody_177 ok_2 ?_
    refine g_imul hC dX5_runBody_178 ?_
    exact ret_i h hR dX5_runBody_179
  rw [if_neg h9] at h
  have n6 := h9
  clear h9
  by_cases h9 : x1 = 11
  · rw [if_pos h9] at h
    refine g_lookup hC dX5_runBody_30 (by decide) 150 180 (by (try dsimp only); rw [h9]; rfl) (by decide) ?_
    refine g_iload_n hC dX5_runBody_180 3 rfl rfl ?_
    refine g_aload_n hC dX5_runBody_181 0 rfl rfl ?_
    refine g_geti hC dX5_runBody_182 lfRX5_38 (isO_spec h0) (ft_5_4 h0) ?_
    refine g_ixor hC dX5_runBody_185 ?_
    exact ret_i h hR dX5_runBody_186
  rw [if_neg h9] at h
  have n7 := h9
  clear h9
  by_cases h9 : x1 = 20
  · rw [if_pos h9] at h
    refine g_lookup hC dX5_runBody_30 (by decide) 157 187 (by (try dsimp only); rw [h9]; rfl) (by decide) ?_
    refine g_aload_n hC dX5_runBody_187 0 rfl rfl ?_
    refine g_iload_n hC dX5_runBody_188 2 rfl rfl ?_
    refine g_iconst hC dX5_runBody_189 ok_0 ?_
    refine g_iload_n hC dX5_runBody_190 3 rfl rfl ?_
    refine g_iload hC dX5_runBody_191 4 rfl ?_
    obtain ⟨⟨r8, s8⟩, e8, h⟩ := of_bind h
    try dsimp only at h
    refine s_callVi hC dX5_runBody_193 (hl2 _ _ _ _ _ _ _ e8) miX5_runs mvX5_runs mlRX5_41 (isO_spec h0) vc_5 rfl rfl (Nat.le_of_ble_eq_true rfl) hf (Nat.le_of_ble_eq_true rfl) hcs ?_
    refine g_iconst hC dX5_runBody_196 ok_3 ?_
    refine g_iadd hC dX5_runBody_197 ?_
    exact ret_i h hR dX5_runBody_198
  rw [if_neg h9] at h
  have n9 := h9
  clear h9
  by_cases h9 : x1 = 30
  · rw [if_pos h9] at h
    refine g_lookup hC dX5_runBody_30 (by decide) 169 199 (by (try dsimp only); rw [h9]; rfl) (by decide) ?_
    refine g_aload_n hC dX5_runBody_199 0 rfl rfl ?_
    refine g_iload_n hC dX5_runBody_200 2 rfl rfl ?_
    refine g_iconst hC dX5_runBody_201 ok_1 ?_
    refine g_iload_n hC dX5_runBody_202 3 rfl rfl ?_
    refine g_iload hC dX5_runBody_203 4 rfl ?_
    obtain ⟨⟨r10, s10⟩, e10, h⟩ := of_bind h
    try dsimp only at h
    refine s_callVi hC dX5_runBody_205 (hl2 _ _ _ _ _ _ _ e10) miX5_runs mvX5_runs mlRX5_41 (isO_spec h0) vc_5 rfl rfl (Nat.le_of_ble_eq_true rfl) hf (Nat.le_of_ble_eq_true rfl) hcs ?_
    refine g_ineg hC dX5_runBody_208 ?_
    exact ret_i h hR dX5_runBody_209
  rw [if_neg h9] at h
  have n11 := h9
  clear h9
  by_cases h9 : x1 = 40
  · rw [if_pos h9] at h
    refine g_lookup hC dX5_runBody_30 (by decide) 180 210 (by (try dsimp only); rw [h9]; rfl) (by decide) ?_
    refine g_aload_n hC dX5_runBody_210 0 rfl rfl ?_
    refine g_iload_n hC dX5_runBody_211 2 rfl rfl ?_
    refine g_iconst hC dX5_runBody_212 ok_2 ?_
    refine g_iload_n hC dX5_runBody_213 3 rfl rfl ?_
    refine g_iload hC dX5_runBody_214 4 rfl ?_
    obtain ⟨⟨r12, s12⟩, e12, h⟩ := of_bind h
    try dsimp only at h
    refine s_callVi hC dX5_runBody_216 (hl2 _ _ _ _ _ _ _ e12) miX5_runs mvX5_runs mlRX5_41 (isO_spec h0) vc_5 rfl rfl (Nat.le_of_ble_eq_true rfl) hf (Nat.le_of_ble_eq_true rfl) hcs ?_
    refine g_iconst hC dX5_runBody_219 ok_3 ?_
    refine g_imul hC dX5_runBody_220 ?_
    exact ret_i h hR dX5_runBody_221
  rw [if_neg h9] at h
  have n13 := h9
  clear h9
  by_cases h9 : x1 = 41
  · rw [if_pos h9] at h
    refine g_lookup hC dX5_runBody_30 (by decide) 192 222 (by (try dsimp only); rw [h9]; rfl) (by decide) ?_
    refine g_aload_n hC dX5_runBody_222 0 rfl rfl ?_
    refine g_iload_n hC dX5_runBody_223 2 rfl rfl ?_
    refine g_iconst hC dX5_runBody_224 ok_1 ?_
    refine g_iload_n hC dX5_runBody_225 3 rfl rfl ?_
    refine g_iconst hC dX5_runBody_226 ok_1 ?_
    refine g_iadd hC dX5_runBody_227 ?_
    refine g_iload hC dX5_runBody_228 4 rfl ?_
    obtain ⟨⟨r14, s14⟩, e14, h⟩ := of_bind h
    try dsimp only at h
    refine s_callVi hC dX5_runBody_230 (hl2 _ _ _ _ _ _ _ e14) miX5_runs mvX5_runs mlRX5_41 (isO_spec h0) vc_5 rfl rfl (Nat.le_of_ble_eq_true rfl) hf (Nat.le_of_ble_eq_true rfl) hcs ?_
    exact ret_i h hR dX5_runBody_233
  rw [if_neg h9] at h
  have n15 := h9
  clear h9
  by_cases h9 : x1 = 50
  · rw [if_pos h9] at h
    refine g_lookup hC dX5_runBody_30 (by decide) 204 234 (by (try dsimp only); rw [h9]; rfl) (by decide) ?_
    refine g_aload_n hC dX5_runBody_234 0 rfl rfl ?_
    refine g_iload_n hC dX5_runBody_235 2 rfl rfl ?_
    refine g_iconst hC dX5_runBody_236 ok_2 ?_
    refine g_iload_n hC dX5_runBody_237 3 rfl rfl ?_
    refine g_iload hC dX5_runBody_238 4 rfl ?_
    obtain ⟨⟨r16, s16⟩, e16, h⟩ := of_bind h
    try dsimp only at h
    refine s_callVi hC dX5_runBody_240 (hl2 _ _ _ _ _ _ _ e16) miX5_runs mvX5_runs mlRX5_41 (isO_spec h0) vc_5 rfl rfl (Nat.le_of_ble_eq_true rfl) hf (Nat.le_of_ble_eq_true rfl) hcs ?_
    refine g_aload_n hC dX5_runBody_243 0 rfl rfl ?_
    refine g_iconst hC dX5_runBody_244 ok_0 ?_
    refine g_iconst hC dX5_runBody_245 ok_2 ?_
    refine g_iload hC dX5_runBody_246 4 rfl ?_
    obtain ⟨⟨r17, s17⟩, e17, h⟩ := of_bind h
    try dsimp only at h
    refine s_callVi hC dX5_runBody_248 (hl0 _ _ _ _ _ _ e17) miX5_own mvX5_own mlRX5_51 (isO_spec h0) vc_5 rfl rfl (Nat.le_of_ble_eq_true rfl) hf (Nat.le_of_ble_eq_true rfl) hcs ?_
    refine g_isub hC dX5_runBody_251 ?_
    exact ret_i h hR dX5_runBody_252
  rw [if_neg h9] at h
  have n18 := h9
  clear h9
  by_cases h9 : x1 = 60
  · rw [if_pos h9] at h
    refine g_lookup hC dX5_runBody_30 (by decide) 223 253 (by (try dsimp only); rw [h9]; rfl) (by decide) ?_
    refine g_aload_n hC dX5_runBody_253 0 rfl rfl ?_
    refine g_iload_n hC dX5_runBody_254 2 rfl rfl ?_
    refine g_iconst hC dX5_runBody_255 ok_3 ?_
    refine g_iload_n hC dX5_runBody_256 3 rfl rfl ?_
    refine g_iload hC dX5_runBody_257 4 rfl ?_
    obtain ⟨⟨r19, s19⟩, e19, h⟩ := of_bind h
    try dsimp only at h
    refine s_callVi hC dX5_runBody_259 (hl2 _ _ _ _ _ _ _ e19) miX5_runs mvX5_runs mlRX5_41 (isO_spec h0) vc_5 rfl rfl (Nat.le_of_ble_eq_true rfl) hf (Nat.le_of_ble_eq_true rfl) hcs ?_
    refine g_iconst hC dX5_runBody_262 ok_5 ?_
    refine g_ixor hC dX5_runBody_263 ?_
    exact ret_i h hR dX5_runBody_264
  rw [if_neg h9] at h
  have n20 := h9
  clear h9
  by_cases h9 : x1 = 70
  · rw [if_pos h9] at h
    refine g_lookup hC dX5_runBody_30 (by decide) 235 265 (by (try dsimp only); rw [h9]; rfl) (by decide) ?_
    refine g_aload_n hC dX5_runBody_265 0 rfl rfl ?_
    refine g_iload_n hC dX5_runBody_266 2 rfl rfl ?_
    refine g_iconst hC dX5_runBody_267 ok_0 ?_
    refine g_iload_n hC dX5_runBody_268 3 rfl rfl ?_
    refine g_iload hC dX5_runBody_269 4 rfl ?_
    obtain ⟨⟨r21, s21⟩, e21, h⟩ := of_bind h
    try dsimp only at h
    refine s_callVi hC dX5_runBody_271 (hl2 _ _ _ _ _ _ _ e21) miX5_runs mvX5_runs mlRX5_41 (isO_spec h0) vc_5 rfl rfl (Nat.le_of_ble_eq_true rfl) hf (Nat.le_of_ble_eq_true rfl) hcs ?_
    refine g_iconst hC dX5_runBody_274 ok_2 ?_
    refine g_imul hC dX5_runBody_275 ?_
    exact ret_i h hR dX5_runBody_276
  rw [if_neg h9] at h
  have n22 := h9
  clear h9
  by_cases h9 : x1 = 80
  · rw [if_pos h9] at h
    refine g_lookup hC dX5_runBody_30 (by decide) 247 277 (by (try dsimp only); rw [h9]; rfl) (by decide) ?_
    refine g_aload_n hC dX5_runBody_277 0 rfl rfl ?_
    refine g_iload_n hC dX5_runBody_278 2 rfl rfl ?_
    refine g_iconst hC dX5_runBody_279 ok_1 ?_
    refine g_iload_n hC dX5_runBody_280 3 rfl rfl ?_
    refine g_iload hC dX5_runBody_281 4 rfl ?_
    obtain ⟨⟨r23, s23⟩, e23, h⟩ := of_bind h
    try dsimp only at h
    refine s_callVi hC dX5_runBody_283 (hl2 _ _ _ _ _ _ _ e23) miX5_runs mvX5_runs mlRX5_41 (isO_spec h0) vc_5 rfl rfl (Nat.le_of_ble_eq_true rfl) hf (Nat.le_of_ble_eq_true rfl) hcs ?_
    refine g_aload_n hC dX5_runBody_286 0 rfl rfl ?_
    refine g_iconst hC dX5_runBody_287 ok_2 ?_
    refine g_iconst hC dX5_runBody_288 ok_2 ?_
    refine g_iload hC dX5_runBody_289 4 rfl ?_
    obtain ⟨⟨r24, s24⟩, e24, h⟩ := of_bind h
    try dsimp only at h
    refine s_callVi hC dX5_runBody_291 (hl0 _ _ _ _ _ _ e24) miX5_own mvX5_own mlRX5_51 (isO_spec h0) vc_5 rfl rfl (Nat.le_of_ble_eq_true rfl) hf (Nat.le_of_ble_eq_true rfl) hcs ?_
    refine g_iadd hC dX5_runBody_294 ?_
    exact ret_i h hR dX5_runBody_295
  rw [if_neg h9] at h
  have n25 := h9
  clear h9
  by_cases h9 : x1 = 81
  · rw [if_pos h9] at h
    refine g_lookup hC dX5_runBody_30 (by decide) 266 296 (by (try dsimp only); rw [h9]; rfl) (by decide) ?_
    refine g_aload_n hC dX5_runBody_296 0 rfl rfl ?_
    refine g_iload_n hC dX5_runBody_297 2 rfl rfl ?_
    refine g_iconst hC dX5_runBody_298 ok_3 ?_
    refine g_iload_n hC dX5_runBody_299 3 rfl rfl ?_
    refine g_iload hC dX5_runBody_300 4 rfl ?_
    obtain ⟨⟨r26, s26⟩, e26, h⟩ := of_bind h
    try dsimp only at h
    refine s_callVi hC dX5_runBody_302 (hl2 _ _ _ _ _ _ _ e26) miX5_runs mvX5_runs mlRX5_41 (isO_spec h0) vc_5 rfl rfl (Nat.le_of_ble_eq_true rfl) hf (Nat.le_of_ble_eq_true rfl) hcs ?_
    refine g_iconst hC dX5_runBody_305 ok_1 ?_
    refine g_isub hC dX5_runBody_306 ?_
    exact ret_i h hR dX5_runBody_307
  rw [if_neg h9] at h
  have n27 := h9
  clear h9
  refine g_lookup hC dX5_runBody_30 (by decide) 278 308 (by simp [Op.lookupswitch.offset, Ne.symm n1, n1, Ne.symm n4, n4, Ne.symm n6, n6, Ne.symm n7, n7, Ne.symm n9, n9, Ne.symm n11, n11, Ne.symm n13, n13, Ne.symm n15, n15, Ne.symm n18, n18, Ne.symm n20, n20, Ne.symm n22, n22, Ne.symm n25, n25, Ne.symm n27, n27]) (by decide) ?_
  refine g_iconst hC dX5_runBody_308 ok_0 ?_
  exact ret_i h hR dX5_runBody_309
theorem bX5_runBody_0 {K : KT} {g : GT} {cm sm : Nat} {cs : Nat × Nat} {fr : Nat} {c0 : Nat} {x1 : Int} {x2 : Int} {x3 : Int} {x4 : Int} {cl : Nat → List Int → St → Option (Int × St)} {frc : Nat} {r : Int} {σ' : St} (hC : Ctx K g RX5 cX5_runBody 5 fr cm sm) (hcs : cs.1 ≤ cm ∧ cs.2 ≤ sm) (h0 : isO 5 c0 = true) (hf : frc + 1 ≤ fr) (hf0 : 0 ≤ fr) (hl0 : ∀ (a0 : Int) (a1 : Int) (a2 : Int) (r : Int) (σ σ' : St), cl 0 [a0, a1, a2] σ = some (r, σ') → Cn (Kl K) g yX5_own cX5_own 4 (some .int) frc 0 0 [vr c0, vi a0, vi a1, vi a2] (SH0, σ) (some (vi r)) (SH0, σ')) (hl1 : ∀ (a0 : Int) (a1 : Int) (a2 : Int) (a3 : Int) (r : Int) (σ σ' : St), cl 1 [a0, a1, a2, a3] σ = some (r, σ') → Cn (Kl K) g yX5_runBody cX5_runBody 5 (some .int) frc 0 0 [vr c0, vi a0, vi a1, vi a2, vi a3] (SH0, σ) (some (vi r)) (SH0, σ')) (hl2 : ∀ (a0 : Int) (a1 : Int) (a2 : Int) (a3 : Int) (r : Int) (σ σ' : St), cl 2 [a0, a1, a2, a3] σ = some (r, σ') → Cn (Kl K) g yX5_runs cX5_runs 8 (some .int) frc 0 0 [vr c0, vi a0, vi a1, vi a2, vi a3] (SH0, σ) (some (vi r)) (SH0, σ')) (hR : RetI K g cX5_runBody 5 cs r (SH0, σ')) : ∀ (σ : St), fX5_runBody cl c0 x1 x2 x3 x4 σ = some (r, σ') → G K g 5 cs 0 [(0, vr c0), (1, vi x1), (2, vi x2), (3, vi x3), (4, vi x4)] [] (SH0, σ) := by
  intro σ h
  unfold fX5_runBody at h
  refine g_aload_n hC dX5_runBody_0 0 rfl rfl ?_
  refine g_geti hC dX5_runBody_1 lfRX5_29 (isO_spec h0) (ft_5_3 h0) ?_
  refine g_bipush hC dX5_runBody_4 bp_24 ?_
  refine g_icmp_ge hC dX5_runBody_6 (tgt := 19) (by decide) (fun h9 => ?_) (fun h9 => ?_)
  · rw [if_pos h9] at h
    exact g_pick [0, 1, 2, 3, 4] rfl (bX5_runBody_19 hC hcs h0 hf hf0 hl0 hl1 hl2 hR _ h)
  · rw [if_neg h9] at h
    refine g_aload_n hC dX5_runBody_9 0 rfl rfl ?_
    refine g_getr hC dX5_runBody_10 lfRX5_15 (isO_spec h0) (ft_5_1 h0) ?_
    refine g_aload_n hC dX5_runBody_13 0 rfl rfl ?_
    refine g_geti hC dX5_runBody_14 lfRX5_29 (isO_spec h0) (ft_5_3 h0) ?_
    refine g_iload_n hC dX5_runBody_17 1 rfl rfl ?_
    obtain ⟨b9, h⟩ := of_ite h
    refine g_iast hC dX5_runBody_18 (isA_spec (rf_5_1 h0)) b9 ?_
    exact g_pick [0, 1, 2, 3, 4] rfl (bX5_runBody_19 hC hcs h0 hf hf0 hl0 hl1 hl2 hR _ h)
theorem bX5_runs_6 {K : KT} {g : GT} {cm sm : Nat} {cs : Nat × Nat} {fr : Nat} {c0 : Nat} {x1 : Int} {x2 : Int} {x3 : Int} {x4 : Int} {cl : Nat → List Int → St → Option (Int × St)} {frc : Nat} {r : Int} {σ' : St} (hC : Ctx K g RX5 cX5_runs 8 fr cm sm) (hcs : cs.1 ≤ cm ∧ cs.2 ≤ sm) (h0 : isO 5 c0 = true) (hf : frc + 1 ≤ fr) (hf0 : 0 ≤ fr) (hl0 : ∀ (a0 : Int) (a1 : Int) (a2 : Int) (r : Int) (σ σ' : St), cl 0 [a0, a1, a2] σ = some (r, σ') → Cn (Kl K) g yX5_own cX5_own 4 (some .int) frc 0 0 [vr c0, vi a0, vi a1, vi a2] (SH0, σ) (some (vi r)) (SH0, σ')) (hl1 : ∀ (a0 : Int) (a1 : Int) (a2 : Int) (a3 : Int) (r : Int) (σ σ' : St), cl 1 [a0, a1, a2, a3] σ = some (r, σ') → Cn (Kl K) g yX5_runBody cX5_runBody 5 (some .int) frc 0 0 [vr c0, vi a0, vi a1, vi a2, vi a3] (SH0, σ) (some (vi r)) (SH0, σ')) (hl2 : ∀ (a0 : Int) (a1 : Int) (a2 : Int) (a3 : Int) (r : Int) (σ σ' : St), cl 2 [a0, a1, a2, a3] σ = some (r, σ') → Cn (Kl K) g yX5_runs cX5_runs 8 (some .int) frc 0 0 [vr c0, vi a0, vi a1, vi a2, vi a3] (SH0, σ) (some (vi r)) (SH0, σ')) (hR : RetI K g cX5_runs 8 cs r (SH0, σ')) : ∀ (n : Nat) (x5 : Int) (x6 : Int) (σ : St), fX5_runs_6 cl c0 x1 x2 x3 x4 n x5 x6 σ = some (r, σ') → G K g 8 cs 6 [(0, vr c0), (1, vi x1), (2, vi x2), (3, vi x3), (4, vi x4), (5, vi x5), (6, vi x6)] [] (SH0, σ) := by
  intro n
  induction n with
  | zero =>
    intro x5 x6 σ h
    rw [fX5_runs_6.eq_1] at h
    cases h
  | succ n ih =>
    intro x5 x6 σ h
    rw [fX5_runs_6.eq_2] at h
    refine g_iload hC dX5_runs_6 6 rfl ?_
    refine g_bipush hC dX5_runs_8 bp_8 ?_
    refine g_icmp_ge hC dX5_runs_10 (tgt := 85) (by decide) (fun h9 => ?_) (fun h9 => ?_)
    · rw [if_pos h9] at h
      refine g_iconst hC dX5_runs_85 ok_0 ?_
      exact ret_i h hR dX5_runs_86
    · rw [if_neg h9] at h
      refine g_iload hC dX5_runs_13 5 rfl ?_
      refine g_if_lt hC dX5_runs_15 (tgt := 85) (by decide) (fun h9 => ?_) (fun h9 => ?_)
      · rw [if_pos h9] at h
        refine g_iconst hC dX5_runs_85 ok_0 ?_
        exact ret_i h hR dX5_runs_86
      · rw [if_neg h9] at h
        refine g_iload hC dX5_runs_18 5 rfl ?_
        refine g_bipush hC dX5_runs_20 bp_8 ?_
        refine g_icmp_ge hC dX5_runs_22 (tgt := 85) (by decide) (fun h9 => ?_) (fun h9 => ?_)
        · rw [if_pos h9] at h
          refine g_iconst hC dX5_runs_85 ok_0 ?_
          exact ret_i h hR dX5_runs_86
        · rw [if_neg h9] at h
          refine g_gets (k := 3) hC dX5_runs_25 rfl gsRX5_45 ?_
          refine g_iload hC dX5_runs_28 5 rfl ?_
          refine g_iconst hC dX5_runs_30 ok_4 ?_
          refine g_imul hC dX5_runs_31 ?_
          refine g_iload_n hC dX5_runs_32 2 rfl rfl ?_
          refine g_iadd hC dX5_runs_33 ?_
          obtain ⟨b9, h⟩ := of_ite h
          refine g_oald (x := 0) hC dX5_runs_34 (xs := stv3) rfl b9 (stv3_ok _) ?_
          refine g_istore hC dX5_runs_35 (Nat.le_of_ble_eq_true rfl) rfl ?_
          refine g_iload hC dX5_runs_37 0 rfl ?_
          refine g_if_eq hC dX5_runs_39 (tgt := 71) (by decide) (fun h9 => ?_) (fun h9 => ?_)
          · rw [if_pos h9] at h
            refine g_gets (k := 2) hC dX5_runs_71 rfl gsRX5_26 ?_
            refine g_iload hC dX5_runs_74 6 rfl ?_
            obtain ⟨b9, h⟩ := of_ite h
            refine g_oald (x := 0) hC dX5_runs_76 (xs := stv2) rfl b9 (stv2_ok _) ?_
            refine g_istore hC dX5_runs_77 (Nat.le_of_ble_eq_true rfl) rfl ?_
            refine g_iinc hC dX5_runs_79 7 rfl (Nat.le_of_ble_eq_true rfl) rfl ?_
            refine g_goto hC dX5_runs_82 (tgt := 6) (by decide) ?_
            exact g_pick [3, 4, 5, 6, 7, 1, 0] rfl (ih _ _ _ h)
          · rw [if_neg h9] at h
            refine g_iload hC dX5_runs_42 5 rfl ?_
            refine g_bipush hC dX5_runs_44 bp_40 ?_
            refine g_icmp_ge hC dX5_runs_46 (tgt := 69) (by decide) (fun h9 => ?_) (fun h9 => ?_)
            · rw [if_pos h9] at h
              refine g_iconst hC dX5_runs_69 ok_0 ?_
              exact ret_i h hR dX5_runs_70
            · rw [if_neg h9] at h
              refine g_aload_n hC dX5_runs_49 1 rfl rfl ?_
              refine g_iload hC dX5_runs_50 0 rfl ?_
              refine g_gets (k := 2) hC dX5_runs_52 rfl gsRX5_26 ?_
              refine g_iload hC dX5_runs_55 6 rfl ?_
              obtain ⟨b9, h⟩ := of_ite h
              refine g_oald (x := 0) hC dX5_runs_57 (xs := stv2) rfl b9 (stv2_ok _) ?_
              refine g_iload_n hC dX5_runs_58 4 rfl rfl ?_
              refine g_iload hC dX5_runs_59 5 rfl ?_
              refine g_iconst hC dX5_runs_61 ok_1 ?_
              refine g_iadd hC dX5_runs_62 ?_
              obtain ⟨⟨r1, s1⟩, e1, h⟩ := of_bind h
              try dsimp only at h
              refine s_callVi hC dX5_runs_63 (hl1 _ _ _ _ _ _ _ e1) miX5_runBody mvX5_runBody mlRX5_48 (isO_spec h0) vc_5 rfl rfl (Nat.le_of_ble_eq_true rfl) hf (Nat.le_of_ble_eq_true rfl) hcs ?_
              refine g_goto hC dX5_runs_66 (tgt := 70) (by decide) ?_
              exact ret_i h hR dX5_runs_70
theorem bX5_runs_0 {K : KT} {g : GT} {cm sm : Nat} {cs : Nat × Nat} {fr : Nat} {c0 : Nat} {x1 : Int} {x2 : Int} {x3 : Int} {x4 : Int} {cl : Nat → List Int → St → Option (Int × St)} {frc : Nat} {r : Int} {σ' : St} (hC : Ctx K g RX5 cX5_runs 8 fr cm sm) (hcs : cs.1 ≤ cm ∧ cs.2 ≤ sm) (h0 : isO 5 c0 = true) (hf : frc + 1 ≤ fr) (hf0 : 0 ≤ fr) (hl0 : ∀ (a0 : Int) (a1 : Int) (a2 : Int) (r : Int) (σ σ' : St), cl 0 [a0, a1, a2] σ = some (r, σ') → Cn (Kl K) g yX5_own cX5_own 4 (some .int) frc 0 0 [vr c0, vi a0, vi a1, vi a2] (SH0, σ) (some (vi r)) (SH0, σ')) (hl1 : ∀ (a0 : Int) (a1 : Int) (a2 : Int) (a3 : Int) (r : Int) (σ σ' : St), cl 1 [a0, a1, a2, a3] σ = some (r, σ') → Cn (Kl K) g yX5_runBody cX5_runBody 5 (some .int) frc 0 0 [vr c0, vi a0, vi a1, vi a2, vi a3] (SH0, σ) (some (vi r)) (SH0, σ')) (hl2 : ∀ (a0 : Int) (a1 : Int) (a2 : Int) (a3 : Int) (r : Int) (σ σ' : St), cl 2 [a0, a1, a2, a3] σ = some (r, σ') → Cn (Kl K) g yX5_runs cX5_runs 8 (some .int) frc 0 0 [vr c0, vi a0, vi a1, vi a2, vi a3] (SH0, σ) (some (vi r)) (SH0, σ')) (hR : RetI K g cX5_runs 8 cs r (SH0, σ')) : ∀ (σ : St), fX5_runs cl c0 x1 x2 x3 x4 σ = some (r, σ') → G K g 8 cs 0 [(0, vr c0), (1, vi x1), (2, vi x2), (3, vi x3), (4, vi x4)] [] (SH0, σ) := by
  intro σ h
  unfold fX5_runs at h
  refine g_iload_n hC dX5_runs_0 1 rfl rfl ?_
  refine g_istore hC dX5_runs_1 (Nat.le_of_ble_eq_true rfl) rfl ?_
  refine g_iconst hC dX5_runs_3 ok_0 ?_
  refine g_istore hC dX5_runs_4 (Nat.le_of_ble_eq_true rfl) rfl ?_
  exact g_pick [2, 3, 4, 5, 6, 1, 0] rfl (bX5_runs_6 hC hcs h0 hf hf0 hl0 hl1 hl2 hR _ _ _ _ h)
theorem cgX5_own {l : Launch} {g : GT} {c0 : Nat} (h0 : isO 5 c0 = true) : ∀ d : Nat, (∀ (a0 : Int) (a1 : Int) (a2 : Int) (r : Int) (σ σ' : St), gX5_own c0 d 0 [a0, a1, a2] σ = some (r, σ') → Cn l g yX5_own cX5_own 4 (some .int) (0 + d) 0 0 [vr c0, vi a0, vi a1, vi a2] (SH0, σ) (some (vi r)) (SH0, σ')) ∧ (∀ (a0 : Int) (a1 : Int) (a2 : Int) (a3 : Int) (r : Int) (σ σ' : St), gX5_own c0 d 1 [a0, a1, a2, a3] σ = some (r, σ') → Cn l g yX5_runBody cX5_runBody 5 (some .int) (0 + d) 0 0 [vr c0, vi a0, vi a1, vi a2, vi a3] (SH0, σ) (some (vi r)) (SH0, σ')) ∧ (∀ (a0 : Int) (a1 : Int) (a2 : Int) (a3 : Int) (r : Int) (σ σ' : St), gX5_own c0 d 2 [a0, a1, a2, a3] σ = some (r, σ') → Cn l g yX5_runs cX5_runs 8 (some .int) (0 + d) 0 0 [vr c0, vi a0, vi a1, vi a2, vi a3] (SH0, σ) (some (vi r)) (SH0, σ')) := by
  intro d
  induction d with
  | zero =>
    refine ⟨?_, ?_, ?_⟩
    · intro a0 a1 a2 r σ σ' h
      rw [gX5_own_0] at h
      cases h
    · intro a0 a1 a2 a3 r σ σ' h
      rw [gX5_own_0] at h
      cases h
    · intro a0 a1 a2 a3 r σ σ' h
      rw [gX5_own_0] at h
      cases h
  | succ d ih =>
    obtain ⟨i0, i1, i2⟩ := ih
    refine ⟨?_, ?_, ?_⟩
    · intro a0 a1 a2 r σ σ' h
      rw [gX5_own_s] at h
      have h : (fX5_own (gX5_own c0 d) c0 a0 a1 a2 σ) = some (r, σ') := h
      exact Cn.ofI (by decide) (Nat.le_of_ble_eq_true rfl) (fun K e hC hR => by
        subst e
        exact bX5_own_0 hC ⟨Nat.le_refl _, Nat.le_refl _⟩ h0 (frc := 0 + d) (by omega) (by omega) i0 i1 i2 hR _ h)
    · intro a0 a1 a2 a3 r σ σ' h
      rw [gX5_own_s] at h
      have h : (fX5_runBody (gX5_own c0 d) c0 a0 a1 a2 a3 σ) = some (r, σ') := h
      exact Cn.ofI (by decide) (Nat.le_of_ble_eq_true rfl) (fun K e hC hR => by
        subst e
        exact bX5_runBody_0 hC ⟨Nat.le_refl _, Nat.le_refl _⟩ h0 (frc := 0 + d) (by omega) (by omega) i0 i1 i2 hR _ h)
    · intro a0 a1 a2 a3 r σ σ' h
      rw [gX5_own_s] at h
      have h : (fX5_runs (gX5_own c0 d) c0 a0 a1 a2 a3 σ) = some (r, σ') := h
      exact Cn.ofI (by decide) (Nat.le_of_ble_eq_true rfl) (fun K e hC hR => by
        subst e
        exact bX5_runs_0 hC ⟨Nat.le_refl _, Nat.le_refl _⟩ h0 (frc := 0 + d) (by omega) (by omega) i0 i1 i2 hR _ h)

theorem tX5_own {l : Launch} {g : GT} {c0 : Nat} {a0 : Int} {a1 : Int} {a2 : Int} {σ σ' : St} {r : Int} (h0 : isO 5 c0 = true) (h : hX5_own c0 a0 a1 a2 σ = some (r, σ')) : Cn l g yX5_own cX5_own 4 (some .int) 200 0 0 [vr c0, vi a0, vi a1, vi a2] (SH0, σ) (some (vi r)) (SH0, σ') := by
  unfold hX5_own at h
  exact (cgX5_own h0 DEP).1 _ _ _ _ _ _ h
theorem tX5_runBody {l : Launch} {g : GT} {c0 : Nat} {a0 : Int} {a1 : Int} {a2 : Int} {a3 : Int} {σ σ' : St} {r : Int} (h0 : isO 5 c0 = true) (h : hX5_runBody c0 a0 a1 a2 a3 σ = some (r, σ')) : Cn l g yX5_runBody cX5_runBody 5 (some .int) 200 0 0 [vr c0, vi a0, vi a1, vi a2, vi a3] (SH0, σ) (some (vi r)) (SH0, σ') := by
  unfold hX5_runBody at h
  exact (cgX5_own h0 DEP).2.1 _ _ _ _ _ _ _ h
theorem tX5_runs {l : Launch} {g : GT} {c0 : Nat} {a0 : Int} {a1 : Int} {a2 : Int} {a3 : Int} {σ σ' : St} {r : Int} (h0 : isO 5 c0 = true) (h : hX5_runs c0 a0 a1 a2 a3 σ = some (r, σ')) : Cn l g yX5_runs cX5_runs 8 (some .int) 200 0 0 [vr c0, vi a0, vi a1, vi a2, vi a3] (SH0, σ) (some (vi r)) (SH0, σ') := by
  unfold hX5_runs at h
  exact (cgX5_own h0 DEP).2.2 _ _ _ _ _ _ _ h
theorem dX5_acts_0 : decode cX5_acts 0 = .ok (.aload_n 0, 1) := by decide +kernel
theorem dX5_acts_1 : decode cX5_acts 1 = .ok (.iconst 0, 1) := by decide +kernel
theorem dX5_acts_2 : decode cX5_acts 2 = .ok (.putfield 29, 3) := by decide +kernel
theorem dX5_acts_5 : decode cX5_acts 5 = .ok (.aload_n 0, 1) := by decide +kernel
theorem dX5_acts_6 : decode cX5_acts 6 = .ok (.iload_n 1, 1) := by decide +kernel
theorem dX5_acts_7 : decode cX5_acts 7 = .ok (.invokevirtual 22, 3) := by decide +kernel
theorem dX5_acts_10 : decode cX5_acts 10 = .ok (.ifCond .eq 12, 3) := by decide +kernel
theorem dX5_acts_13 : decode cX5_acts 13 = .ok (.iload_n 2, 1) := by decide +kernel
theorem dX5_acts_14 : decode cX5_acts 14 = .ok (.ifCond .lt 8, 3) := by decide +kernel
theorem dX5_acts_17 : decode cX5_acts 17 = .ok (.iload_n 2, 1) := by decide +kernel
theorem dX5_acts_18 : decode cX5_acts 18 = .ok (.iconst 4, 1) := by decide +kernel
theorem dX5_acts_19 : decode cX5_acts 19 = .ok (.if_icmp .lt 5, 3) := by decide +kernel
theorem dX5_acts_22 : decode cX5_acts 22 = .ok (.iconst 0, 1) := by decide +kernel
theorem dX5_acts_23 : decode cX5_acts 23 = .ok (.ireturn, 1) := by decide +kernel
theorem dX5_acts_24 : decode cX5_acts 24 = .ok (.aload_n 0, 1) := by decide +kernel
theorem dX5_acts_25 : decode cX5_acts 25 = .ok (.iload_n 1, 1) := by decide +kernel
theorem dX5_acts_26 : decode cX5_acts 26 = .ok (.putfield 38, 3) := by decide +kernel
theorem dX5_acts_29 : decode cX5_acts 29 = .ok (.aload_n 0, 1) := by decide +kernel
theorem dX5_acts_30 : decode cX5_acts 30 = .ok (.aload_n 0, 1) := by decide +kernel
theorem dX5_acts_31 : decode cX5_acts 31 = .ok (.getfield 11, 3) := by decide +kernel
theorem dX5_acts_34 : decode cX5_acts 34 = .ok (.iload_n 1, 1) := by decide +kernel
theorem dX5_acts_35 : decode cX5_acts 35 = .ok (.iaload, 1) := by decide +kernel
theorem dX5_acts_36 : decode cX5_acts 36 = .ok (.iload_n 2, 1) := by decide +kernel
theorem dX5_acts_37 : decode cX5_acts 37 = .ok (.iload_n 3, 1) := by decide +kernel
theorem dX5_acts_38 : decode cX5_acts 38 = .ok (.iconst 0, 1) := by decide +kernel
theorem dX5_acts_39 : decode cX5_acts 39 = .ok (.invokevirtual 41, 3) := by decide +kernel
theorem dX5_acts_42 : decode cX5_acts 42 = .ok (.ireturn, 1) := by decide +kernel
theorem bX5_acts_0 {K : KT} {g : GT} {cm sm : Nat} {cs : Nat × Nat} {c0 : Nat} {x1 : Int} {x2 : Int} {x3 : Int} {r : Int} {σ' : St} (hC : Ctx K g RX5 cX5_acts 4 201 cm sm) (hcs : cs.1 ≤ cm ∧ cs.2 ≤ sm) (h0 : isO 5 c0 = true) (hR : RetI K g cX5_acts 4 cs r (SH0, σ')) : ∀ (σ : St), fX5_acts c0 x1 x2 x3 σ = some (r, σ') → G K g 4 cs 0 [(0, vr c0), (1, vi x1), (2, vi x2), (3, vi x3)] [] (SH0, σ) := by
  intro σ h
  unfold fX5_acts at h
  refine g_aload_n hC dX5_acts_0 0 rfl rfl ?_
  refine g_iconst hC dX5_acts_1 ok_0 ?_
  refine g_puti hC dX5_acts_2 lfRX5_29 fp_5_3 (isO_spec h0) (ft_5_3 h0) ?_
  refine g_aload_n hC dX5_acts_5 0 rfl rfl ?_
  refine g_iload_n hC dX5_acts_6 1 rfl rfl ?_
  obtain ⟨⟨r1, s1⟩, e1, h⟩ := of_bind h
  try dsimp only at h
  refine s_callVi hC dX5_acts_7 (tX5_has h0 e1) miX5_has mvX5_has mlRX5_22 (isO_spec h0) vc_5 rfl rfl (Nat.le_of_ble_eq_true rfl) (Nat.le_of_ble_eq_true rfl) (Nat.le_of_ble_eq_true rfl) hcs ?_
  refine g_if_eq hC dX5_acts_10 (tgt := 22) (by decide) (fun h9 => ?_) (fun h9 => ?_)
  · rw [if_pos h9] at h
    refine g_iconst hC dX5_acts_22 ok_0 ?_
    exact ret_i h hR dX5_acts_23
  · rw [if_neg h9] at h
    refine g_iload_n hC dX5_acts_13 2 rfl rfl ?_
    refine g_if_lt hC dX5_acts_14 (tgt := 22) (by decide) (fun h9 => ?_) (fun h9 => ?_)
    · rw [if_pos h9] at h
      refine g_iconst hC dX5_acts_22 ok_0 ?_
      exact ret_i h hR dX5_acts_23
    · rw [if_neg h9] at h
      refine g_iload_n hC dX5_acts_17 2 rfl rfl ?_
      refine g_iconst hC dX5_acts_18 ok_4 ?_
      refine g_icmp_lt hC dX5_acts_19 (tgt := 24) (by decide) (fun h9 => ?_) (fun h9 => ?_)
      · rw [if_pos h9] at h
        refine g_aload_n hC dX5_acts_24 0 rfl rfl ?_
        refine g_iload_n hC dX5_acts_25 1 rfl rfl ?_
        refine g_puti hC dX5_acts_26 lfRX5_38 fp_5_4 (isO_spec h0) (ft_5_4 h0) ?_
        refine g_aload_n hC dX5_acts_29 0 rfl rfl ?_
        refine g_aload_n hC dX5_acts_30 0 rfl rfl ?_
        refine g_getr hC dX5_acts_31 lfRX5_11 (isO_spec h0) (ft_5_0 h0) ?_
        refine g_iload_n hC dX5_acts_34 1 rfl rfl ?_
        obtain ⟨b9, h⟩ := of_ite h
        refine g_iald hC dX5_acts_35 (isA_spec (rf_5_0 h0)) b9 ?_
        refine g_iload_n hC dX5_acts_36 2 rfl rfl ?_
        refine g_iload_n hC dX5_acts_37 3 rfl rfl ?_
        refine g_iconst hC dX5_acts_38 ok_0 ?_
        obtain ⟨⟨r2, s2⟩, e2, h⟩ := of_bind h
        try dsimp only at h
        refine s_callVi hC dX5_acts_39 (tX5_runs h0 e2) miX5_runs mvX5_runs mlRX5_41 (isO_spec h0) vc_5 rfl rfl (Nat.le_of_ble_eq_true rfl) (Nat.le_of_ble_eq_true rfl) (Nat.le_of_ble_eq_true rfl) hcs ?_
        exact ret_i h hR dX5_acts_42
      · rw [if_neg h9] at h
        refine g_iconst hC dX5_acts_22 ok_0 ?_
        exact ret_i h hR dX5_acts_23
theorem tX5_acts {l : Launch} {g : GT} {c0 : Nat} {x1 : Int} {x2 : Int} {x3 : Int} {σ σ' : St} {r : Int} (h0 : isO 5 c0 = true) (h : fX5_acts c0 x1 x2 x3 σ = some (r, σ')) : Cn l g yX5_acts cX5_acts 4 (some .int) 201 0 0 [vr c0, vi x1, vi x2, vi x3] (SH0, σ) (some (vi r)) (SH0, σ') :=
  Cn.ofI (by decide) (Nat.le_of_ble_eq_true rfl) (fun K e hC hR => (bX5_acts_0 hC ⟨Nat.le_refl _, Nat.le_refl _⟩ h0 hR _ h))
theorem dX9_act_0 : decode cX9_act 0 = .ok (.aload_n 0, 1) := by decide +kernel
theorem dX9_act_1 : decode cX9_act 1 = .ok (.getfield 65, 3) := by decide +kernel
theorem dX9_act_4 : decode cX9_act 4 = .ok (.iload_n 1, 1) := by decide +kernel
theorem dX9_act_5 : decode cX9_act 5 = .ok (.iload_n 2, 1) := by decide +kernel
theorem dX9_act_6 : decode cX9_act 6 = .ok (.iload_n 3, 1) := by decide +kernel
theorem dX9_act_7 : decode cX9_act 7 = .ok (.invokevirtual 301, 3) := by decide +kernel
theorem dX9_act_10 : decode cX9_act 10 = .ok (.ireturn, 1) := by decide +kernel
theorem bX9_act_0 {K : KT} {g : GT} {cm sm : Nat} {cs : Nat × Nat} {c0 : Nat} {x1 : Int} {x2 : Int} {x3 : Int} {r : Int} {σ' : St} (hC : Ctx K g RX9 cX9_act 4 202 cm sm) (hcs : cs.1 ≤ cm ∧ cs.2 ≤ sm) (h0 : isO 9 c0 = true) (hR : RetI K g cX9_act 4 cs r (SH0, σ')) : ∀ (σ : St), fX9_act c0 x1 x2 x3 σ = some (r, σ') → G K g 4 cs 0 [(0, vr c0), (1, vi x1), (2, vi x2), (3, vi x3)] [] (SH0, σ) := by
  intro σ h
  unfold fX9_act at h
  refine g_aload_n hC dX9_act_0 0 rfl rfl ?_
  refine g_getr hC dX9_act_1 lfRX9_65 (isO_spec h0) (ft_9_7 h0) ?_
  refine g_iload_n hC dX9_act_4 1 rfl rfl ?_
  refine g_iload_n hC dX9_act_5 2 rfl rfl ?_
  refine g_iload_n hC dX9_act_6 3 rfl rfl ?_
  obtain ⟨⟨r1, s1⟩, e1, h⟩ := of_bind h
  try dsimp only at h
  refine s_callVi hC dX9_act_7 (tX5_acts (rf_9_7 h0) e1) miX5_acts mvX5_acts mlRX9_301 (isO_spec (rf_9_7 h0)) vc_5 rfl rfl (Nat.le_of_ble_eq_true rfl) (Nat.le_of_ble_eq_true rfl) (Nat.le_of_ble_eq_true rfl) hcs ?_
  exact ret_i h hR dX9_act_10
theorem tX9_act {l : Launch} {g : GT} {c0 : Nat} {x1 : Int} {x2 : Int} {x3 : Int} {σ σ' : St} {r : Int} (h0 : isO 9 c0 = true) (h : fX9_act c0 x1 x2 x3 σ = some (r, σ')) : Cn l g yX9_act cX9_act 4 (some .int) 202 0 0 [vr c0, vi x1, vi x2, vi x3] (SH0, σ) (some (vi r)) (SH0, σ') :=
  Cn.ofI (by decide) (Nat.le_of_ble_eq_true rfl) (fun K e hC hR => (bX9_act_0 hC ⟨Nat.le_refl _, Nat.le_refl _⟩ h0 hR _ h))
theorem dX2_hasBidder_0 : decode cX2_hasBidder 0 = .ok (.iload_n 1, 1) := by decide +kernel
theorem dX2_hasBidder_1 : decode cX2_hasBidder 1 = .ok (.ifCond .lt 15, 3) := by decide +kernel
theorem dX2_hasBidder_4 : decode cX2_hasBidder 4 = .ok (.iload_n 1, 1) := by decide +kernel
theorem dX2_hasBidder_5 : decode cX2_hasBidder 5 = .ok (.aload_n 0, 1) := by decide +kernel
theorem dX2_hasBidder_6 : decode cX2_hasBidder 6 = .ok (.getfield 22, 3) := by decide +kernel
theorem dX2_hasBidder_9 : decode cX2_hasBidder 9 = .ok (.if_icmp .ge 7, 3) := by decide +kernel
theorem dX2_hasBidder_12 : decode cX2_hasBidder 12 = .ok (.iconst 1, 1) := by decide +kernel
theorem dX2_hasBidder_13 : decode cX2_hasBidder 13 = .ok (.goto 4, 3) := by decide +kernel
theorem dX2_hasBidder_16 : decode cX2_hasBidder 16 = .ok (.iconst 0, 1) := by decide +kernel
theorem dX2_hasBidder_17 : decode cX2_hasBidder 17 = .ok (.ireturn, 1) := by decide +kernel
theorem bX2_hasBidder_0 {K : KT} {g : GT} {cm sm : Nat} {cs : Nat × Nat} {c0 : Nat} {x1 : Int} {r : Int} {σ' : St} (hC : Ctx K g RX2 cX2_hasBidder 2 0 cm sm) (hcs : cs.1 ≤ cm ∧ cs.2 ≤ sm) (h0 : isO 2 c0 = true) (hR : RetZ K g cX2_hasBidder 2 cs r (SH0, σ')) : ∀ (σ : St), fX2_hasBidder c0 x1 σ = some (r, σ') → G K g 2 cs 0 [(0, vr c0), (1, vi x1)] [] (SH0, σ) := by
  intro σ h
  unfold fX2_hasBidder at h
  refine g_iload_n hC dX2_hasBidder_0 1 rfl rfl ?_
  refine g_if_lt hC dX2_hasBidder_1 (tgt := 16) (by decide) (fun h9 => ?_) (fun h9 => ?_)
  · rw [if_pos h9] at h
    refine g_iconst hC dX2_hasBidder_16 ok_0 ?_
    exact ret_z h hR (by decide) dX2_hasBidder_17
  · rw [if_neg h9] at h
    refine g_iload_n hC dX2_hasBidder_4 1 rfl rfl ?_
    refine g_aload_n hC dX2_hasBidder_5 0 rfl rfl ?_
    refine g_geti hC dX2_hasBidder_6 lfRX2_22 (isO_spec h0) (ft_2_3 h0) ?_
    refine g_icmp_ge hC dX2_hasBidder_9 (tgt := 16) (by decide) (fun h9 => ?_) (fun h9 => ?_)
    · rw [if_pos h9] at h
      refine g_iconst hC dX2_hasBidder_16 ok_0 ?_
      exact ret_z h hR (by decide) dX2_hasBidder_17
    · rw [if_neg h9] at h
      refine g_iconst hC dX2_hasBidder_12 ok_1 ?_
      refine g_goto hC dX2_hasBidder_13 (tgt := 17) (by decide) ?_
      exact ret_z h hR (by decide) dX2_hasBidder_17
theorem tX2_hasBidder {l : Launch} {g : GT} {c0 : Nat} {x1 : Int} {σ σ' : St} {r : Int} (h0 : isO 2 c0 = true) (h : fX2_hasBidder c0 x1 σ = some (r, σ')) : Cn l g yX2_hasBidder cX2_hasBidder 2 (some .boolean) 0 0 0 [vr c0, vi x1] (SH0, σ) (some (vi r)) (SH0, σ') :=
  Cn.ofZ (by decide) (Nat.le_of_ble_eq_true rfl) (fun K e hC hR => (bX2_hasBidder_0 hC ⟨Nat.le_refl _, Nat.le_refl _⟩ h0 hR _ h))
theorem dX6_holdsBytes_0 : decode cX6_holdsBytes 0 = .ok (.aload_n 0, 1) := by decide +kernel
theorem dX6_holdsBytes_1 : decode cX6_holdsBytes 1 = .ok (.getfield 15, 3) := by decide +kernel
theorem dX6_holdsBytes_4 : decode cX6_holdsBytes 4 = .ok (.iconst 2, 1) := by decide +kernel
theorem dX6_holdsBytes_5 : decode cX6_holdsBytes 5 = .ok (.if_icmp .ne 14, 3) := by decide +kernel
theorem dX6_holdsBytes_8 : decode cX6_holdsBytes 8 = .ok (.aload_n 0, 1) := by decide +kernel
theorem dX6_holdsBytes_9 : decode cX6_holdsBytes 9 = .ok (.getfield 25, 3) := by decide +kernel
theorem dX6_holdsBytes_12 : decode cX6_holdsBytes 12 = .ok (.ifCond .ne 7, 3) := by decide +kernel
theorem dX6_holdsBytes_15 : decode cX6_holdsBytes 15 = .ok (.iconst 1, 1) := by decide +kernel
theorem dX6_holdsBytes_16 : decode cX6_holdsBytes 16 = .ok (.goto 4, 3) := by decide +kernel
theorem dX6_holdsBytes_19 : decode cX6_holdsBytes 19 = .ok (.iconst 0, 1) := by decide +kernel
theorem dX6_holdsBytes_20 : decode cX6_holdsBytes 20 = .ok (.ireturn, 1) := by decide +kernel
theorem bX6_holdsBytes_0 {K : KT} {g : GT} {cm sm : Nat} {cs : Nat × Nat} {c0 : Nat} {r : Int} {σ' : St} (hC : Ctx K g RX6 cX6_holdsBytes 1 0 cm sm) (hcs : cs.1 ≤ cm ∧ cs.2 ≤ sm) (h0 : isO 6 c0 = true) (hR : RetZ K g cX6_holdsBytes 1 cs r (SH0, σ')) : ∀ (σ : St), fX6_holdsBytes c0 σ = some (r, σ') → G K g 1 cs 0 [(0, vr c0)] [] (SH0, σ) := by
  intro σ h
  unfold fX6_holdsBytes at h
  refine g_aload_n hC dX6_holdsBytes_0 0 rfl rfl ?_
  refine g_geti hC dX6_holdsBytes_1 lfRX6_15 (isO_spec h0) (ft_6_1 h0) ?_
  refine g_iconst hC dX6_holdsBytes_4 ok_2 ?_
  refine g_icmp_ne hC dX6_holdsBytes_5 (tgt := 19) (by decide) (fun h9 => ?_) (fun h9 => ?_)
  · rw [if_neg h9] at h
    refine g_iconst hC dX6_holdsBytes_19 ok_0 ?_
    exact ret_z h hR (by decide) dX6_holdsBytes_20
  · rw [if_pos h9] at h
    refine g_aload_n hC dX6_holdsBytes_8 0 rfl rfl ?_
    refine g_geti hC dX6_holdsBytes_9 lfRX6_25 (isO_spec h0) (ft_6_3 h0) ?_
    refine g_if_ne hC dX6_holdsBytes_12 (tgt := 19) (by decide) (fun h9 => ?_) (fun h9 => ?_)
    · rw [if_neg h9] at h
      refine g_iconst hC dX6_holdsBytes_19 ok_0 ?_
      exact ret_z h hR (by decide) dX6_holdsBytes_20
    · rw [if_pos h9] at h
      refine g_iconst hC dX6_holdsBytes_15 ok_1 ?_
      refine g_goto hC dX6_holdsBytes_16 (tgt := 20) (by decide) ?_
      exact ret_z h hR (by decide) dX6_holdsBytes_20
theorem tX6_holdsBytes {l : Launch} {g : GT} {c0 : Nat} {σ σ' : St} {r : Int} (h0 : isO 6 c0 = true) (h : fX6_holdsBytes c0 σ = some (r, σ')) : Cn l g yX6_holdsBytes cX6_holdsBytes 1 (some .boolean) 0 0 0 [vr c0] (SH0, σ) (some (vi r)) (SH0, σ') :=
  Cn.ofZ (by decide) (Nat.le_of_ble_eq_true rfl) (fun K e hC hR => (bX6_holdsBytes_0 hC ⟨Nat.le_refl _, Nat.le_refl _⟩ h0 hR _ h))
theorem dX6_refusesBytes_0 : decode cX6_refusesBytes 0 = .ok (.aload_n 0, 1) := by decide +kernel
theorem dX6_refusesBytes_1 : decode cX6_refusesBytes 1 = .ok (.getfield 15, 3) := by decide +kernel
theorem dX6_refusesBytes_4 : decode cX6_refusesBytes 4 = .ok (.ifCond .ne 6, 3) := by decide +kernel
theorem dX6_refusesBytes_7 : decode cX6_refusesBytes 7 = .ok (.bipush (-11), 2) := by decide +kernel
theorem dX6_refusesBytes_9 : decode cX6_refusesBytes 9 = .ok (.ireturn, 1) := by decide +kernel
theorem dX6_refusesBytes_10 : decode cX6_refusesBytes 10 = .ok (.aload_n 0, 1) := by decide +kernel
theorem dX6_refusesBytes_11 : decode cX6_refusesBytes 11 = .ok (.invokevirtual 43, 3) := by decide +kernel
theorem dX6_refusesBytes_14 : decode cX6_refusesBytes 14 = .ok (.ifCond .eq 7, 3) := by decide +kernel
theorem dX6_refusesBytes_17 : decode cX6_refusesBytes 17 = .ok (.iconst 0, 1) := by decide +kernel
theorem dX6_refusesBytes_18 : decode cX6_refusesBytes 18 = .ok (.goto 5, 3) := by decide +kernel
theorem dX6_refusesBytes_21 : decode cX6_refusesBytes 21 = .ok (.bipush (-12), 2) := by decide +kernel
theorem dX6_refusesBytes_23 : decode cX6_refusesBytes 23 = .ok (.ireturn, 1) := by decide +kernel
theorem bX6_refusesBytes_0 {K : KT} {g : GT} {cm sm : Nat} {cs : Nat × Nat} {c0 : Nat} {r : Int} {σ' : St} (hC : Ctx K g RX6 cX6_refusesBytes 1 1 cm sm) (hcs : cs.1 ≤ cm ∧ cs.2 ≤ sm) (h0 : isO 6 c0 = true) (hR : RetI K g cX6_refusesBytes 1 cs r (SH0, σ')) : ∀ (σ : St), fX6_refusesBytes c0 σ = some (r, σ') → G K g 1 cs 0 [(0, vr c0)] [] (SH0, σ) := by
  intro σ h
  unfold fX6_refusesBytes at h
  refine g_aload_n hC dX6_refusesBytes_0 0 rfl rfl ?_
  refine g_geti hC dX6_refusesBytes_1 lfRX6_15 (isO_spec h0) (ft_6_1 h0) ?_
  refine g_if_ne hC dX6_refusesBytes_4 (tgt := 10) (by decide) (fun h9 => ?_) (fun h9 => ?_)
  · rw [if_neg h9] at h
    refine g_aload_n hC dX6_refusesBytes_10 0 rfl rfl ?_
    obtain ⟨⟨r1, s1⟩, e1, h⟩ := of_bind h
    try dsimp only at h
    refine s_callVi hC dX6_refusesBytes_11 (tX6_holdsBytes h0 e1) miX6_holdsBytes mvX6_holdsBytes mlRX6_43 (isO_spec h0) vc_6 rfl rfl (Nat.le_of_ble_eq_true rfl) (Nat.le_of_ble_eq_true rfl) (Nat.le_of_ble_eq_true rfl) hcs ?_
    refine g_if_eq hC dX6_refusesBytes_14 (tgt := 21) (by decide) (fun h9 => ?_) (fun h9 => ?_)
    · rw [if_pos h9] at h
      refine g_bipush hC dX6_refusesBytes_21 bp_m12 ?_
      exact ret_i h hR dX6_refusesBytes_23
    · rw [if_neg h9] at h
      refine g_iconst hC dX6_refusesBytes_17 ok_0 ?_
      refine g_goto hC dX6_refusesBytes_18 (tgt := 23) (by decide) ?_
      exact ret_i h hR dX6_refusesBytes_23
  · rw [if_pos h9] at h
    refine g_bipush hC dX6_refusesBytes_7 bp_m11 ?_
    exact ret_i h hR dX6_refusesBytes_9
theorem tX6_refusesBytes {l : Launch} {g : GT} {c0 : Nat} {σ σ' : St} {r : Int} (h0 : isO 6 c0 = true) (h : fX6_refusesBytes c0 σ = some (r, σ')) : Cn l g yX6_refusesBytes cX6_refusesBytes 1 (some .int) 1 0 0 [vr c0] (SH0, σ) (some (vi r)) (SH0, σ') :=
  Cn.ofI (by decide) (Nat.le_of_ble_eq_true rfl) (fun K e hC hR => (bX6_refusesBytes_0 hC ⟨Nat.le_refl _, Nat.le_refl _⟩ h0 hR _ h))
theorem dJ7_fill_53178_0 : decode cJ7_fill_53178 0 = .ok (.iconst 0, 1) := by decide +kernel
theorem dJ7_fill_53178_1 : decode cJ7_fill_53178 1 = .ok (.istore_n 2, 1) := by decide +kernel
theorem dJ7_fill_53178_2 : decode cJ7_fill_53178 2 = .ok (.aload_n 0, 1) := by decide +kernel
theorem dJ7_fill_53178_3 : decode cJ7_fill_53178 3 = .ok (.arraylength, 1) := by decide +kernel
theorem dJ7_fill_53178_4 : decode cJ7_fill_53178 4 = .ok (.istore_n 3, 1) := by decide +kernel
theorem dJ7_fill_53178_5 : decode cJ7_fill_53178 5 = .ok (.iload_n 2, 1) := by decide +kernel
theorem dJ7_fill_53178_6 : decode cJ7_fill_53178 6 = .ok (.iload_n 3, 1) := by decide +kernel
theorem dJ7_fill_53178_7 : decode cJ7_fill_53178 7 = .ok (.if_icmp .ge 13, 3) := by decide +kernel
theorem dJ7_fill_53178_10 : decode cJ7_fill_53178 10 = .ok (.aload_n 0, 1) := by decide +kernel
theorem dJ7_fill_53178_11 : decode cJ7_fill_53178 11 = .ok (.iload_n 2, 1) := by decide +kernel
theorem dJ7_fill_53178_12 : decode cJ7_fill_53178 12 = .ok (.iload_n 1, 1) := by decide +kernel
theorem dJ7_fill_53178_13 : decode cJ7_fill_53178 13 = .ok (.iastore, 1) := by decide +kernel
theorem dJ7_fill_53178_14 : decode cJ7_fill_53178 14 = .ok (.iinc 2 1, 3) := by decide +kernel
theorem dJ7_fill_53178_17 : decode cJ7_fill_53178 17 = .ok (.goto (-12), 3) := by decide +kernel
theorem dJ7_fill_53178_20 : decode cJ7_fill_53178 20 = .ok (.return_, 1) := by decide +kernel
theorem bJ7_fill_53178_5 {K : KT} {g : GT} {cm sm : Nat} {cs : Nat × Nat} {c0 : Nat} {x1 : Int} {σ' : St} (hC : Ctx K g RJ7 cJ7_fill_53178 4 0 cm sm) (hcs : cs.1 ≤ cm ∧ cs.2 ≤ sm) (h0 : isA 1 c0 = true) (hR : RetV K g cJ7_fill_53178 4 cs (SH0, σ')) : ∀ (n : Nat) (x2 : Int) (x3 : Int) (σ : St), fJ7_fill_53178_5 c0 x1 n x2 x3 σ = some σ' → G K g 4 cs 5 [(0, vr c0), (1, vi x1), (2, vi x2), (3, vi x3)] [] (SH0, σ) := by
  intro n
  induction n with
  | zero =>
    intro x2 x3 σ h
    rw [fJ7_fill_53178_5.eq_1] at h
    cases h
  | succ n ih =>
    intro x2 x3 σ h
    rw [fJ7_fill_53178_5.eq_2] at h
    refine g_iload_n hC dJ7_fill_53178_5 2 rfl rfl ?_
    refine g_iload_n hC dJ7_fill_53178_6 3 rfl rfl ?_
    refine g_icmp_ge hC dJ7_fill_53178_7 (tgt := 20) (by decide) (fun h9 => ?_) (fun h9 => ?_)
    · rw [if_pos h9] at h
      exact ret_v h hR dJ7_fill_53178_20
    · rw [if_neg h9] at h
      refine g_aload_n hC dJ7_fill_53178_10 0 rfl rfl ?_
      refine g_iload_n hC dJ7_fill_53178_11 2 rfl rfl ?_
      refine g_iload_n hC dJ7_fill_53178_12 1 rfl rfl ?_
      obtain ⟨b9, h⟩ := of_ite h
      refine g_iast hC dJ7_fill_53178_13 (isA_spec h0) b9 ?_
      refine g_iinc hC dJ7_fill_53178_14 2 rfl (Nat.le_of_ble_eq_true rfl) rfl ?_
      refine g_goto hC dJ7_fill_53178_17 (tgt := 5) (by decide) ?_
      exact g_pick [1, 2, 0, 3] rfl (ih _ _ _ h)
theorem bJ7_fill_53178_0 {K : KT} {g : GT} {cm sm : Nat} {cs : Nat × Nat} {c0 : Nat} {x1 : Int} {σ' : St} (hC : Ctx K g RJ7 cJ7_fill_53178 4 0 cm sm) (hcs : cs.1 ≤ cm ∧ cs.2 ≤ sm) (h0 : isA 1 c0 = true) (hR : RetV K g cJ7_fill_53178 4 cs (SH0, σ')) : ∀ (σ : St), fJ7_fill_53178 c0 x1 σ = some σ' → G K g 4 cs 0 [(0, vr c0), (1, vi x1)] [] (SH0, σ) := by
  intro σ h
  unfold fJ7_fill_53178 at h
  refine g_iconst hC dJ7_fill_53178_0 ok_0 ?_
  refine g_istore_n hC dJ7_fill_53178_1 rfl (Nat.le_of_ble_eq_true rfl) rfl ?_
  refine g_aload_n hC dJ7_fill_53178_2 1 rfl rfl ?_
  refine g_alen hC dJ7_fill_53178_3 (Or.inl (isA_spec h0)) (ok_LN _) ?_
  refine g_istore_n hC dJ7_fill_53178_4 rfl (Nat.le_of_ble_eq_true rfl) rfl ?_
  exact g_pick [2, 3, 1, 0] rfl (bJ7_fill_53178_5 hC hcs h0 hR _ _ _ _ h)
theorem tJ7_fill_53178 {l : Launch} {g : GT} {c0 : Nat} {x1 : Int} {σ σ' : St} (h0 : isA 1 c0 = true) (h : fJ7_fill_53178 c0 x1 σ = some σ') : Cn l g yJ7_fill_53178 cJ7_fill_53178 4 none 0 0 0 [vr c0, vi x1] (SH0, σ) none (SH0, σ') :=
  Cn.ofV (by decide) (Nat.le_of_ble_eq_true rfl) (fun K e hC hR => (bJ7_fill_53178_0 hC ⟨Nat.le_refl _, Nat.le_refl _⟩ h0 hR _ h))
theorem dX2_copies_0 : decode cX2_copies 0 = .ok (.aload_n 1, 1) := by decide +kernel
theorem dX2_copies_1 : decode cX2_copies 1 = .ok (.getfield 11, 3) := by decide +kernel
theorem dX2_copies_4 : decode cX2_copies 4 = .ok (.iconst 0, 1) := by decide +kernel
theorem dX2_copies_5 : decode cX2_copies 5 = .ok (.aload_n 0, 1) := by decide +kernel
theorem dX2_copies_6 : decode cX2_copies 6 = .ok (.getfield 11, 3) := by decide +kernel
theorem dX2_copies_9 : decode cX2_copies 9 = .ok (.iconst 0, 1) := by decide +kernel
theorem dX2_copies_10 : decode cX2_copies 10 = .ok (.aload_n 0, 1) := by decide +kernel
theorem dX2_copies_11 : decode cX2_copies 11 = .ok (.getfield 11, 3) := by decide +kernel
theorem dX2_copies_14 : decode cX2_copies 14 = .ok (.arraylength, 1) := by decide +kernel
theorem dX2_copies_15 : decode cX2_copies 15 = .ok (.invokestatic 36, 3) := by decide +kernel
theorem dX2_copies_18 : decode cX2_copies 18 = .ok (.aload_n 1, 1) := by decide +kernel
theorem dX2_copies_19 : decode cX2_copies 19 = .ok (.getfield 15, 3) := by decide +kernel
theorem dX2_copies_22 : decode cX2_copies 22 = .ok (.iconst 0, 1) := by decide +kernel
theorem dX2_copies_23 : decode cX2_copies 23 = .ok (.aload_n 0, 1) := by decide +kernel
theorem dX2_copies_24 : decode cX2_copies 24 = .ok (.getfield 15, 3) := by decide +kernel
theorem dX2_copies_27 : decode cX2_copies 27 = .ok (.iconst 0, 1) := by decide +kernel
theorem dX2_copies_28 : decode cX2_copies 28 = .ok (.aload_n 0, 1) := by decide +kernel
theorem dX2_copies_29 : decode cX2_copies 29 = .ok (.getfield 15, 3) := by decide +kernel
theorem dX2_copies_32 : decode cX2_copies 32 = .ok (.arraylength, 1) := by decide +kernel
theorem dX2_copies_33 : decode cX2_copies 33 = .ok (.invokestatic 36, 3) := by decide +kernel
theorem dX2_copies_36 : decode cX2_copies 36 = .ok (.aload_n 0, 1) := by decide +kernel
theorem dX2_copies_37 : decode cX2_copies 37 = .ok (.aload_n 1, 1) := by decide +kernel
theorem dX2_copies_38 : decode cX2_copies 38 = .ok (.getfield 18, 3) := by decide +kernel
theorem dX2_copies_41 : decode cX2_copies 41 = .ok (.putfield 18, 3) := by decide +kernel
theorem dX2_copies_44 : decode cX2_copies 44 = .ok (.aload_n 0, 1) := by decide +kernel
theorem dX2_copies_45 : decode cX2_copies 45 = .ok (.aload_n 1, 1) := by decide +kernel
theorem dX2_copies_46 : decode cX2_copies 46 = .ok (.getfield 22, 3) := by decide +kernel
theorem dX2_copies_49 : decode cX2_copies 49 = .ok (.putfield 22, 3) := by decide +kernel
theorem dX2_copies_52 : decode cX2_copies 52 = .ok (.return_, 1) := by decide +kernel
theorem bX2_copies_44 {K : KT} {g : GT} {cm sm : Nat} {cs : Nat × Nat} {c0 : Nat} {c1 : Nat} {σ' : St} (hC : Ctx K g RX2 cX2_copies 2 1 cm sm) (hcs : cs.1 ≤ cm ∧ cs.2 ≤ sm) (h0 : isO 2 c0 = true) (h1 : isO 2 c1 = true) (hR : RetV K g cX2_copies 2 cs (SH0, σ')) : ∀ (σ : St), fX2_copies_44 c0 c1 σ = some σ' → G K g 2 cs 44 [(0, vr c0), (1, vr c1)] [] (SH0, σ) := by
  intro σ h
  unfold fX2_copies_44 at h
  refine g_aload_n hC dX2_copies_44 0 rfl rfl ?_
  refine g_aload_n hC dX2_copies_45 1 rfl rfl ?_
  refine g_geti hC dX2_copies_46 lfRX2_22 (isO_spec h1) (ft_2_3 h1) ?_
  refine g_puti hC dX2_copies_49 lfRX2_22 fp_2_3 (isO_spec h0) (ft_2_3 h0) ?_
  exact ret_v h hR dX2_copies_52
theorem bX2_copies_0 {K : KT} {g : GT} {cm sm : Nat} {cs : Nat × Nat} {c0 : Nat} {c1 : Nat} {σ' : St} (hC : Ctx K g RX2 cX2_copies 2 1 cm sm) (hcs : cs.1 ≤ cm ∧ cs.2 ≤ sm) (h0 : isO 2 c0 = true) (h1 : isO 2 c1 = true) (hR : RetV K g cX2_copies 2 cs (SH0, σ')) : ∀ (σ : St), fX2_copies c0 c1 σ = some σ' → G K g 2 cs 0 [(0, vr c0), (1, vr c1)] [] (SH0, σ) := by
  intro σ h
  unfold fX2_copies at h
  refine g_aload_n hC dX2_copies_0 1 rfl rfl ?_
  refine g_getr hC dX2_copies_1 lfRX2_11 (isO_spec h1) (ft_2_0 h1) ?_
  refine g_iconst hC dX2_copies_4 ok_0 ?_
  refine g_aload_n hC dX2_copies_5 0 rfl rfl ?_
  refine g_getr hC dX2_copies_6 lfRX2_11 (isO_spec h0) (ft_2_0 h0) ?_
  refine g_iconst hC dX2_copies_9 ok_0 ?_
  refine g_aload_n hC dX2_copies_10 0 rfl rfl ?_
  refine g_getr hC dX2_copies_11 lfRX2_11 (isO_spec h0) (ft_2_0 h0) ?_
  refine g_alen hC dX2_copies_14 (Or.inl (isA_spec (rf_2_0 h0))) (ok_LN _) ?_
  obtain ⟨b9, h⟩ := of_ite h
  refine g_copyi hC dX2_copies_15 lmRX2_36 ac_1 ac_2 ac_3 (Nat.le_of_ble_eq_true rfl) (Nat.le_of_ble_eq_true rfl) (isA_spec (rf_2_0 h1)) (isA_spec (rf_2_0 h0)) b9 ?_
  refine g_aload_n hC dX2_copies_18 1 rfl rfl ?_
  refine g_getr hC dX2_copies_19 lfRX2_15 (isO_spec h1) (ft_2_1 h1) ?_
  refine g_iconst hC dX2_copies_22 ok_0 ?_
  refine g_aload_n hC dX2_copies_23 0 rfl rfl ?_
  refine g_getr hC dX2_copies_24 lfRX2_15 (isO_spec h0) (ft_2_1 h0) ?_
  refine g_iconst hC dX2_copies_27 ok_0 ?_
  refine g_aload_n hC dX2_copies_28 0 rfl rfl ?_
  refine g_getr hC dX2_copies_29 lfRX2_15 (isO_spec h0) (ft_2_1 h0) ?_
  refine g_alen hC dX2_copies_32 (Or.inl (isA_spec (rf_2_1 h0))) (ok_LN _) ?_
  obtain ⟨b9, h⟩ := of_ite h
  refine g_copyi hC dX2_copies_33 lmRX2_36 ac_1 ac_2 ac_3 (Nat.le_of_ble_eq_true rfl) (Nat.le_of_ble_eq_true rfl) (isA_spec (rf_2_1 h1)) (isA_spec (rf_2_1 h0)) b9 ?_
  refine g_aload_n hC dX2_copies_36 0 rfl rfl ?_
  refine g_aload_n hC dX2_copies_37 1 rfl rfl ?_
  refine g_geti hC dX2_copies_38 lfRX2_18 (isO_spec h1) (ft_2_2 h1) ?_
  refine g_puti hC dX2_copies_41 lfRX2_18 fp_2_2 (isO_spec h0) (ft_2_2 h0) ?_
  exact g_pick [0, 1] rfl (bX2_copies_44 hC hcs h0 h1 hR _ h)
theorem tX2_copies {l : Launch} {g : GT} {c0 : Nat} {c1 : Nat} {σ σ' : St} (h0 : isO 2 c0 = true) (h1 : isO 2 c1 = true) (h : fX2_copies c0 c1 σ = some σ') : Cn l g yX2_copies cX2_copies 2 none 1 0 0 [vr c0, vr c1] (SH0, σ) none (SH0, σ') :=
  Cn.ofV (by decide) (Nat.le_of_ble_eq_true rfl) (fun K e hC hR => (bX2_copies_0 hC ⟨Nat.le_refl _, Nat.le_refl _⟩ h0 h1 hR _ h))
theorem dX2_number_0 : decode cX2_number 0 = .ok (.iload_n 2, 1) := by decide +kernel
theorem dX2_number_1 : decode cX2_number 1 = .ok (.ifCond .lt 31, 3) := by decide +kernel
theorem dX2_number_4 : decode cX2_number 4 = .ok (.iload_n 2, 1) := by decide +kernel
theorem dX2_number_5 : decode cX2_number 5 = .ok (.iconst 4, 1) := by decide +kernel
theorem dX2_number_6 : decode cX2_number 6 = .ok (.if_icmp .ge 26, 3) := by decide +kernel
theorem dX2_number_9 : decode cX2_number 9 = .ok (.iload_n 1, 1) := by decide +kernel
theorem dX2_number_10 : decode cX2_number 10 = .ok (.ifCond .lt 22, 3) := by decide +kernel
theorem dX2_number_13 : decode cX2_number 13 = .ok (.iload_n 1, 1) := by decide +kernel
theorem dX2_number_14 : decode cX2_number 14 = .ok (.aload_n 0, 1) := by decide +kernel
theorem dX2_number_15 : decode cX2_number 15 = .ok (.getfield 18, 3) := by decide +kernel
theorem dX2_number_18 : decode cX2_number 18 = .ok (.if_icmp .ge 14, 3) := by decide +kernel
theorem dX2_number_21 : decode cX2_number 21 = .ok (.aload_n 0, 1) := by decide +kernel
theorem dX2_number_22 : decode cX2_number 22 = .ok (.getfield 11, 3) := by decide +kernel
theorem dX2_number_25 : decode cX2_number 25 = .ok (.iload_n 1, 1) := by decide +kernel
theorem dX2_number_26 : decode cX2_number 26 = .ok (.iconst 4, 1) := by decide +kernel
theorem dX2_number_27 : decode cX2_number 27 = .ok (.imul, 1) := by decide +kernel
theorem dX2_number_28 : decode cX2_number 28 = .ok (.iload_n 2, 1) := by decide +kernel
theorem dX2_number_29 : decode cX2_number 29 = .ok (.iadd, 1) := by decide +kernel
theorem dX2_number_30 : decode cX2_number 30 = .ok (.iaload, 1) := by decide +kernel
theorem dX2_number_31 : decode cX2_number 31 = .ok (.ireturn, 1) := by decide +kernel
theorem dX2_number_32 : decode cX2_number 32 = .ok (.iload_n 2, 1) := by decide +kernel
theorem dX2_number_33 : decode cX2_number 33 = .ok (.iconst 4, 1) := by decide +kernel
theorem dX2_number_34 : decode cX2_number 34 = .ok (.if_icmp .lt 35, 3) := by decide +kernel
theorem dX2_number_37 : decode cX2_number 37 = .ok (.iload_n 2, 1) := by decide +kernel
theorem dX2_number_38 : decode cX2_number 38 = .ok (.bipush 13, 2) := by decide +kernel
theorem dX2_number_40 : decode cX2_number 40 = .ok (.if_icmp .ge 29, 3) := by decide +kernel
theorem dX2_number_43 : decode cX2_number 43 = .ok (.iload_n 1, 1) := by decide +kernel
theorem dX2_number_44 : decode cX2_number 44 = .ok (.ifCond .lt 25, 3) := by decide +kernel
theorem dX2_number_47 : decode cX2_number 47 = .ok (.iload_n 1, 1) := by decide +kernel
theorem dX2_number_48 : decode cX2_number 48 = .ok (.aload_n 0, 1) := by decide +kernel
theorem dX2_number_49 : decode cX2_number 49 = .ok (.getfield 22, 3) := by decide +kernel
theorem dX2_number_52 : decode cX2_number 52 = .ok (.if_icmp .ge 17, 3) := by decide +kernel
theorem dX2_number_55 : decode cX2_number 55 = .ok (.aload_n 0, 1) := by decide +kernel
theorem dX2_number_56 : decode cX2_number 56 = .ok (.getfield 15, 3) := by decide +kernel
theorem dX2_number_59 : decode cX2_number 59 = .ok (.iload_n 1, 1) := by decide +kernel
theorem dX2_number_60 : decode cX2_number 60 = .ok (.bipush 9, 2) := by decide +kernel
theorem dX2_number_62 : decode cX2_number 62 = .ok (.imul, 1) := by decide +kernel
theorem dX2_number_63 : decode cX2_number 63 = .ok (.iload_n 2, 1) := by decide +kernel
theorem dX2_number_64 : decode cX2_number 64 = .ok (.iadd, 1) := by decide +kernel
theorem dX2_number_65 : decode cX2_number 65 = .ok (.iconst 4, 1) := by decide +kernel
theorem dX2_number_66 : decode cX2_number 66 = .ok (.isub, 1) := by decide +kernel
theorem dX2_number_67 : decode cX2_number 67 = .ok (.iaload, 1) := by decide +kernel
theorem dX2_number_68 : decode cX2_number 68 = .ok (.ireturn, 1) := by decide +kernel
theorem dX2_number_69 : decode cX2_number 69 = .ok (.iconst 0, 1) := by decide +kernel
theorem dX2_number_70 : decode cX2_number 70 = .ok (.ireturn, 1) := by decide +kernel
theorem bX2_number_32 {K : KT} {g : GT} {cm sm : Nat} {cs : Nat × Nat} {c0 : Nat} {x1 : Int} {x2 : Int} {r : Int} {σ' : St} (hC : Ctx K g RX2 cX2_number 3 0 cm sm) (hcs : cs.1 ≤ cm ∧ cs.2 ≤ sm) (h0 : isO 2 c0 = true) (hR : RetI K g cX2_number 3 cs r (SH0, σ')) : ∀ (σ : St), fX2_number_32 c0 x1 x2 σ = some (r, σ') → G K g 3 cs 32 [(0, vr c0), (1, vi x1), (2, vi x2)] [] (SH0, σ) := by
  intro σ h
  unfold fX2_number_32 at h
  refine g_iload_n hC dX2_number_32 2 rfl rfl ?_
  refine g_iconst hC dX2_number_33 ok_4 ?_
  refine g_icmp_lt hC dX2_number_34 (tgt := 69) (by decide) (fun h9 => ?_) (fun h9 => ?_)
  · rw [if_pos h9] at h
    refine g_iconst hC dX2_number_69 ok_0 ?_
    exact ret_i h hR dX2_number_70
  · rw [if_neg h9] at h
    refine g_iload_n hC dX2_number_37 2 rfl rfl ?_
    refine g_bipush hC dX2_number_38 bp_13 ?_
    refine g_icmp_ge hC dX2_number_40 (tgt := 69) (by decide) (fun h9 => ?_) (fun h9 => ?_)
    · rw [if_pos h9] at h
      refine g_iconst hC dX2_number_69 ok_0 ?_
      exact ret_i h hR dX2_number_70
    · rw [if_neg h9] at h
      refine g_iload_n hC dX2_number_43 1 rfl rfl ?_
      refine g_if_lt hC dX2_number_44 (tgt := 69) (by decide) (fun h9 => ?_) (fun h9 => ?_)
      · rw [if_pos h9] at h
        refine g_iconst hC dX2_number_69 ok_0 ?_
        exact ret_i h hR dX2_number_70
      · rw [if_neg h9] at h
        refine g_iload_n hC dX2_number_47 1 rfl rfl ?_
        refine g_aload_n hC dX2_number_48 0 rfl rfl ?_
        refine g_geti hC dX2_number_49 lfRX2_22 (isO_spec h0) (ft_2_3 h0) ?_
        refine g_icmp_ge hC dX2_number_52 (tgt := 69) (by decide) (fun h9 => ?_) (fun h9 => ?_)
        · rw [if_pos h9] at h
          refine g_iconst hC dX2_number_69 ok_0 ?_
          exact ret_i h hR dX2_number_70
        · rw [if_neg h9] at h
          refine g_aload_n hC dX2_number_55 0 rfl rfl ?_
          refine g_getr hC dX2_number_56 lfRX2_15 (isO_spec h0) (ft_2_1 h0) ?_
          refine g_iload_n hC dX2_number_59 1 rfl rfl ?_
          refine g_bipush hC dX2_number_60 bp_9 ?_
          refine g_imul hC dX2_number_62 ?_
          refine g_iload_n hC dX2_number_63 2 rfl rfl ?_
          refine g_iadd hC dX2_number_64 ?_
          refine g_iconst hC dX2_number_65 ok_4 ?_
          refine g_isub hC dX2_number_66 ?_
          obtain ⟨b9, h⟩ := of_ite h
          refine g_iald hC dX2_number_67 (isA_spec (rf_2_1 h0)) b9 ?_
          exact ret_i h hR dX2_number_68
theorem bX2_number_0 {K : KT} {g : GT} {cm sm : Nat} {cs : Nat × Nat} {c0 : Nat} {x1 : Int} {x2 : Int} {r : Int} {σ' : St} (hC : Ctx K g RX2 cX2_number 3 0 cm sm) (hcs : cs.1 ≤ cm ∧ cs.2 ≤ sm) (h0 : isO 2 c0 = true) (hR : RetI K g cX2_number 3 cs r (SH0, σ')) : ∀ (σ : St), fX2_number c0 x1 x2 σ = some (r, σ') → G K g 3 cs 0 [(0, vr c0), (1, vi x1), (2, vi x2)] [] (SH0, σ) := by
  intro σ h
  unfold fX2_number at h
  refine g_iload_n hC dX2_number_0 2 rfl rfl ?_
  refine g_if_lt hC dX2_number_1 (tgt := 32) (by decide) (fun h9 => ?_) (fun h9 => ?_)
  · rw [if_pos h9] at h
    exact g_pick [0, 1, 2] rfl (bX2_number_32 hC hcs h0 hR _ h)
  · rw [if_neg h9] at h
    refine g_iload_n hC dX2_number_4 2 rfl rfl ?_
    refine g_iconst hC dX2_number_5 ok_4 ?_
    refine g_icmp_ge hC dX2_number_6 (tgt := 32) (by decide) (fun h9 => ?_) (fun h9 => ?_)
    · rw [if_pos h9] at h
      exact g_pick [0, 1, 2] rfl (bX2_number_32 hC hcs h0 hR _ h)
    · rw [if_neg h9] at h
      refine g_iload_n hC dX2_number_9 1 rfl rfl ?_
      refine g_if_lt hC dX2_number_10 (tgt := 32) (by decide) (fun h9 => ?_) (fun h9 => ?_)
      · rw [if_pos h9] at h
        exact g_pick [0, 1, 2] rfl (bX2_number_32 hC hcs h0 hR _ h)
      · rw [if_neg h9] at h
        refine g_iload_n hC dX2_number_13 1 rfl rfl ?_
        refine g_aload_n hC dX2_number_14 0 rfl rfl ?_
        refine g_geti hC dX2_number_15 lfRX2_18 (isO_spec h0) (ft_2_2 h0) ?_
        refine g_icmp_ge hC dX2_number_18 (tgt := 32) (by decide) (fun h9 => ?_) (fun h9 => ?_)
        · rw [if_pos h9] at h
          exact g_pick [0, 1, 2] rfl (bX2_number_32 hC hcs h0 hR _ h)
        · rw [if_neg h9] at h
          refine g_aload_n hC dX2_number_21 0 rfl rfl ?_
          refine g_getr hC dX2_number_22 lfRX2_11 (isO_spec h0) (ft_2_0 h0) ?_
          refine g_iload_n hC dX2_number_25 1 rfl rfl ?_
          refine g_iconst hC dX2_number_26 ok_4 ?_
          refine g_imul hC dX2_number_27 ?_
          refine g_iload_n hC dX2_number_28 2 rfl rfl ?_
          refine g_iadd hC dX2_number_29 ?_
          obtain ⟨b9, h⟩ := of_ite h
          refine g_iald hC dX2_number_30 (isA_spec (rf_2_0 h0)) b9 ?_
          exact ret_i h hR dX2_number_31
theorem tX2_number {l : Launch} {g : GT} {c0 : Nat} {x1 : Int} {x2 : Int} {σ σ' : St} {r : Int} (h0 : isO 2 c0 = true) (h : fX2_number c0 x1 x2 σ = some (r, σ')) : Cn l g yX2_number cX2_number 3 (some .int) 0 0 0 [vr c0, vi x1, vi x2] (SH0, σ) (some (vi r)) (SH0, σ') :=
  Cn.ofI (by decide) (Nat.le_of_ble_eq_true rfl) (fun K e hC hR => (bX2_number_0 hC ⟨Nat.le_refl _, Nat.le_refl _⟩ h0 hR _ h))
theorem dX7_restarts_0 : decode cX7_restarts 0 = .ok (.aload_n 0, 1) := by decide +kernel
theorem dX7_restarts_1 : decode cX7_restarts 1 = .ok (.iconst 0, 1) := by decide +kernel
theorem dX7_restarts_2 : decode cX7_restarts 2 = .ok (.putfield 51, 3) := by decide +kernel
theorem dX7_restarts_5 : decode cX7_restarts 5 = .ok (.aload_n 0, 1) := by decide +kernel
theorem dX7_restarts_6 : decode cX7_restarts 6 = .ok (.iconst 0, 1) := by decide +kernel
theorem dX7_restarts_7 : decode cX7_restarts 7 = .ok (.putfield 55, 3) := by decide +kernel
theorem dX7_restarts_10 : decode cX7_restarts 10 = .ok (.aload_n 0, 1) := by decide +kernel
theorem dX7_restarts_11 : decode cX7_restarts 11 = .ok (.iconst 0, 1) := by decide +kernel
theorem dX7_restarts_12 : decode cX7_restarts 12 = .ok (.putfield 58, 3) := by decide +kernel
theorem dX7_restarts_15 : decode cX7_restarts 15 = .ok (.aload_n 0, 1) := by decide +kernel
theorem dX7_restarts_16 : decode cX7_restarts 16 = .ok (.iconst 0, 1) := by decide +kernel
theorem dX7_restarts_17 : decode cX7_restarts 17 = .ok (.putfield 61, 3) := by decide +kernel
theorem dX7_restarts_20 : decode cX7_restarts 20 = .ok (.aload_n 0, 1) := by decide +kernel
theorem dX7_restarts_21 : decode cX7_restarts 21 = .ok (.getfield 18, 3) := by decide +kernel
theorem dX7_restarts_24 : decode cX7_restarts 24 = .ok (.iconst 0, 1) := by decide +kernel
theorem dX7_restarts_25 : decode cX7_restarts 25 = .ok (.invokestatic 42, 3) := by decide +kernel
theorem dX7_restarts_28 : decode cX7_restarts 28 = .ok (.aload_n 0, 1) := by decide +kernel
theorem dX7_restarts_29 : decode cX7_restarts 29 = .ok (.getfield 22, 3) := by decide +kernel
theorem dX7_restarts_32 : decode cX7_restarts 32 = .ok (.iconst 0, 1) := by decide +kernel
theorem dX7_restarts_33 : decode cX7_restarts 33 = .ok (.invokestatic 42, 3) := by decide +kernel
theorem dX7_restarts_36 : decode cX7_restarts 36 = .ok (.iconst 0, 1) := by decide +kernel
theorem dX7_restarts_37 : decode cX7_restarts 37 = .ok (.istore_n 1, 1) := by decide +kernel
theorem dX7_restarts_38 : decode cX7_restarts 38 = .ok (.iload_n 1, 1) := by decide +kernel
theorem dX7_restarts_39 : decode cX7_restarts 39 = .ok (.aload_n 0, 1) := by decide +kernel
theorem dX7_restarts_40 : decode cX7_restarts 40 = .ok (.getfield 12, 3) := by decide +kernel
theorem dX7_restarts_43 : decode cX7_restarts 43 = .ok (.getfield 64, 3) := by decide +kernel
theorem dX7_restarts_46 : decode cX7_restarts 46 = .ok (.if_icmp .ge 110, 3) := by decide +kernel
theorem dX7_restarts_49 : decode cX7_restarts 49 = .ok (.aload_n 0, 1) := by decide +kernel
theorem dX7_restarts_50 : decode cX7_restarts 50 = .ok (.getfield 12, 3) := by decide +kernel
theorem dX7_restarts_53 : decode cX7_restarts 53 = .ok (.iload_n 1, 1) := by decide +kernel
theorem dX7_restarts_54 : decode cX7_restarts 54 = .ok (.iconst 1, 1) := by decide +kernel
theorem dX7_restarts_55 : decode cX7_restarts 55 = .ok (.invokevirtual 67, 3) := by decide +kernel
theorem dX7_restarts_58 : decode cX7_restarts 58 = .ok (.istore_n 2, 1) := by decide +kernel
theorem dX7_restarts_59 : decode cX7_restarts 59 = .ok (.aload_n 0, 1) := by decide +kernel
theorem dX7_restarts_60 : decode cX7_restarts 60 = .ok (.getfield 12, 3) := by decide +kernel
theorem dX7_restarts_63 : decode cX7_restarts 63 = .ok (.iload_n 1, 1) := by decide +kernel
theorem dX7_restarts_64 : decode cX7_restarts 64 = .ok (.iconst 2, 1) := by decide +kernel
theorem dX7_restarts_65 : decode cX7_restarts 65 = .ok (.invokevirtual 67, 3) := by decide +kernel
theorem dX7_restarts_68 : decode cX7_restarts 68 = .ok (.ifCond .eq 7, 3) := by decide +kernel
theorem dX7_restarts_71 : decode cX7_restarts 71 = .ok (.iconst 1, 1) := by decide +kernel
theorem dX7_restarts_72 : decode cX7_restarts 72 = .ok (.goto 4, 3) := by decide +kernel
theorem dX7_restarts_75 : decode cX7_restarts 75 = .ok (.iconst 0, 1) := by decide +kernel
theorem dX7_restarts_76 : decode cX7_restarts 76 = .ok (.istore_n 3, 1) := by decide +kernel
theorem dX7_restarts_77 : decode cX7_restarts 77 = .ok (.aload_n 0, 1) := by decide +kernel
theorem dX7_restarts_78 : decode cX7_restarts 78 = .ok (.getfield 12, 3) := by decide +kernel
theorem dX7_restarts_81 : decode cX7_restarts 81 = .ok (.iload_n 2, 1) := by decide +kernel
theorem dX7_restarts_82 : decode cX7_restarts 82 = .ok (.invokevirtual 71, 3) := by decide +kernel
theorem dX7_restarts_85 : decode cX7_restarts 85 = .ok (.ifCond .ne 26, 3) := by decide +kernel
theorem dX7_restarts_88 : decode cX7_restarts 88 = .ok (.aload_n 0, 1) := by decide +kernel
theorem dX7_restarts_89 : decode cX7_restarts 89 = .ok (.dup, 1) := by decide +kernel
theorem dX7_restarts_90 : decode cX7_restarts 90 = .ok (.getfield 51, 3) := by decide +kernel
theorem dX7_restarts_93 : decode cX7_restarts 93 = .ok (.iload_n 3, 1) := by decide +kernel
theorem dX7_restarts_94 : decode cX7_restarts 94 = .ok (.ifCond .eq 7, 3) := by decide +kernel
theorem dX7_restarts_97 : decode cX7_restarts 97 = .ok (.iconst 0, 1) := by decide +kernel
theorem dX7_restarts_98 : decode cX7_restarts 98 = .ok (.goto 6, 3) := by decide +kernel
theorem dX7_restarts_101 : decode cX7_restarts 101 = .ok (.iconst 1, 1) := by decide +kernel
theorem dX7_restarts_102 : decode cX7_restarts 102 = .ok (.iload_n 1, 1) := by decide +kernel
theorem dX7_restarts_103 : decode cX7_restarts 103 = .ok (.ishl, 1) := by decide +kernel
theorem dX7_restarts_104 : decode cX7_restarts 104 = .ok (.ior, 1) := by decide +kernel
theorem dX7_restarts_105 : decode cX7_restarts 105 = .ok (.putfield 51, 3) := by decide +kernel
theorem dX7_restarts_108 : decode cX7_restarts 108 = .ok (.goto 42, 3) := by decide +kernel
theorem dX7_restarts_111 : decode cX7_restarts 111 = .ok (.iload_n 3, 1) := by decide +kernel
theorem dX7_restarts_112 : decode cX7_restarts 112 = .ok (.ifCond .ne 16, 3) := by decide +kernel
theorem dX7_restarts_115 : decode cX7_restarts 115 = .ok (.aload_n 0, 1) := by decide +kernel
theorem dX7_restarts_116 : decode cX7_restarts 116 = .ok (.getfield 18, 3) := by decide +kernel
theorem dX7_restarts_119 : decode cX7_restarts 119 = .ok (.iload_n 2, 1) := by decide +kernel
theorem dX7_restarts_120 : decode cX7_restarts 120 = .ok (.dup2, 1) := by decide +kernel
theorem dX7_restarts_121 : decode cX7_restarts 121 = .ok (.iaload, 1) := by decide +kernel
theorem dX7_restarts_122 : decode cX7_restarts 122 = .ok (.iconst 1, 1) := by decide +kernel
theorem dX7_restarts_123 : decode cX7_restarts 123 = .ok (.iadd, 1) := by decide +kernel
theorem dX7_restarts_124 : decode cX7_restarts 124 = .ok (.iastore, 1) := by decide +kernel
theorem dX7_restarts_125 : decode cX7_restarts 125 = .ok (.goto 25, 3) := by decide +kernel
theorem dX7_restarts_128 : decode cX7_restarts 128 = .ok (.aload_n 0, 1) := by decide +kernel
theorem dX7_restarts_129 : decode cX7_restarts 129 = .ok (.getfield 12, 3) := by decide +kernel
theorem dX7_restarts_132 : decode cX7_restarts 132 = .ok (.iload_n 1, 1) := by decide +kernel
theorem dX7_restarts_133 : decode cX7_restarts 133 = .ok (.iconst 3, 1) := by decide +kernel
theorem dX7_restarts_134 : decode cX7_restarts 134 = .ok (.invokevirtual 67, 3) := by decide +kernel
theorem dX7_restarts_137 : decode cX7_restarts 137 = .ok (.ifCond .le 13, 3) := by decide +kernel
theorem dX7_restarts_140 : decode cX7_restarts 140 = .ok (.aload_n 0, 1) := by decide +kernel
theorem dX7_restarts_141 : decode cX7_restarts 141 = .ok (.getfield 22, 3) := by decide +kernel
theorem dX7_restarts_144 : decode cX7_restarts 144 = .ok (.iload_n 2, 1) := by decide +kernel
theorem dX7_restarts_145 : decode cX7_restarts 145 = .ok (.dup2, 1) := by decide +kernel
theorem dX7_restarts_146 : decode cX7_restarts 146 = .ok (.iaload, 1) := by decide +kernel
theorem dX7_restarts_147 : decode cX7_restarts 147 = .ok (.iconst 1, 1) := by decide +kernel
theorem dX7_restarts_148 : decode cX7_restarts 148 = .ok (.iadd, 1) := by decide +kernel
theorem dX7_restarts_149 : decode cX7_restarts 149 = .ok (.iastore, 1) := by decide +kernel
theorem dX7_restarts_150 : decode cX7_restarts 150 = .ok (.iinc 1 1, 3) := by decide +kernel
theorem dX7_restarts_153 : decode cX7_restarts 153 = .ok (.goto (-115), 3) := by decide +kernel
theorem dX7_restarts_156 : decode cX7_restarts 156 = .ok (.return_, 1) := by decide +kernel
theorem bX7_restarts_150 {K : KT} {g : GT} {cm sm : Nat} {cs : Nat × Nat} {c0 : Nat} {k38 : Int → St → Option (St)} {σ' : St} (hC : Ctx K g RX7 cX7_restarts 4 1 cm sm) (hcs : cs.1 ≤ cm ∧ cs.2 ≤ sm) (h0 : isO 7 c0 = true) (hk38 : ∀ (x1 : Int) (σ : St), k38 x1 σ = some σ' → G K g 4 cs 38 [(0, vr c0), (1, vi x1)] [] (SH0, σ)) (hR : RetV K g cX7_restarts 4 cs (SH0, σ')) : ∀ (x1 : Int) (σ : St), fX7_restarts_150 c0 k38 x1 σ = some σ' → G K g 4 cs 150 [(0, vr c0), (1, vi x1)] [] (SH0, σ) := by
  intro x1 σ h
  unfold fX7_restarts_150 at h
  refine g_iinc hC dX7_restarts_150 1 rfl (Nat.le_of_ble_eq_true rfl) rfl ?_
  refine g_goto hC dX7_restarts_153 (tgt := 38) (by decide) ?_
  exact g_pick [1, 0] rfl (hk38 _ _ h)
theorem bX7_restarts_104 {K : KT} {g : GT} {cm sm : Nat} {cs : Nat × Nat} {c0 : Nat} {k38 : Int → St → Option (St)} {σ' : St} (hC : Ctx K g RX7 cX7_restarts 4 1 cm sm) (hcs : cs.1 ≤ cm ∧ cs.2 ≤ sm) (h0 : isO 7 c0 = true) (hk38 : ∀ (x1 : Int) (σ : St), k38 x1 σ = some σ' → G K g 4 cs 38 [(0, vr c0), (1, vi x1)] [] (SH0, σ)) (hR : RetV K g cX7_restarts 4 cs (SH0, σ')) : ∀ (x1 : Int) (d0 : Nat) (y1 : Int) (y2 : Int) (σ : St), isO 7 d0 = true → fX7_restarts_104 c0 k38 x1 d0 y1 y2 σ = some σ' → G K g 4 cs 104 [(0, vr c0), (1, vi x1)] [vi y2, vi y1, vr d0] (SH0, σ) := by
  intro x1 d0 y1 y2 σ hd0 h
  unfold fX7_restarts_104 at h
  refine g_ior hC dX7_restarts_104 ?_
  refine g_puti hC dX7_restarts_105 lfRX7_51 fp_7_8 (isO_spec hd0) (ft_7_8 hd0) ?_
  refine g_goto hC dX7_restarts_108 (tgt := 150) (by decide) ?_
  exact g_pick [0, 1] rfl (bX7_restarts_150 hC hcs h0 hk38 hR _ _ h)
theorem bX7_restarts_76 {K : KT} {g : GT} {cm sm : Nat} {cs : Nat × Nat} {c0 : Nat} {k38 : Int → St → Option (St)} {σ' : St} (hC : Ctx K g RX7 cX7_restarts 4 1 cm sm) (hcs : cs.1 ≤ cm ∧ cs.2 ≤ sm) (h0 : isO 7 c0 = true) (hk38 : ∀ (x1 : Int) (σ : St), k38 x1 σ = some σ' → G K g 4 cs 38 [(0, vr c0), (1, vi x1)] [] (SH0, σ)) (hR : RetV K g cX7_restarts 4 cs (SH0, σ')) : ∀ (x1 : Int) (x2 : Int) (y0 : Int) (σ : St), fX7_restarts_76 c0 k38 x1 x2 y0 σ = some σ' → G K g 4 cs 76 [(0, vr c0), (1, vi x1), (2, vi x2)] [vi y0] (SH0, σ) := by
  intro x1 x2 y0 σ h
  unfold fX7_restarts_76 at h
  refine g_istore_n hC dX7_restarts_76 rfl (Nat.le_of_ble_eq_true rfl) rfl ?_
  refine g_aload_n hC dX7_restarts_77 1 rfl rfl ?_
  refine g_getr hC dX7_restarts_78 lfRX7_12 (isO_spec h0) (ft_7_0 h0) ?_
  refine g_iload_n hC dX7_restarts_81 3 rfl rfl ?_
  obtain ⟨⟨r1, s1⟩, e1, h⟩ := of_bind h
  try dsimp only at h
  refine s_callVi hC dX7_restarts_82 (tX2_hasBidder (rf_7_0 h0) e1) miX2_hasBidder mvX2_hasBidder mlRX7_71 (isO_spec (rf_7_0 h0)) vc_2 rfl rfl (Nat.le_of_ble_eq_true rfl) (Nat.le_of_ble_eq_true rfl) (Nat.le_of_ble_eq_true rfl) hcs ?_
  refine g_if_ne hC dX7_restarts_85 (tgt := 111) (by decide) (fun h9 => ?_) (fun h9 => ?_)
  · rw [if_neg h9] at h
    refine g_iload_n hC dX7_restarts_111 0 rfl rfl ?_
    refine g_if_ne hC dX7_restarts_112 (tgt := 128) (by decide) (fun h9 => ?_) (fun h9 => ?_)
    · rw [if_neg h9] at h
      refine g_aload_n hC dX7_restarts_128 1 rfl rfl ?_
      refine g_getr hC dX7_restarts_129 lfRX7_12 (isO_spec h0) (ft_7_0 h0) ?_
      refine g_iload_n hC dX7_restarts_132 2 rfl rfl ?_
      refine g_iconst hC dX7_restarts_133 ok_3 ?_
      obtain ⟨⟨r2, s2⟩, e2, h⟩ := of_bind h
      try dsimp only at h
      refine s_callVi hC dX7_restarts_134 (tX2_number (rf_7_0 h0) e2) miX2_number mvX2_number mlRX7_67 (isO_spec (rf_7_0 h0)) vc_2 rfl rfl (Nat.le_of_ble_eq_true rfl) (Nat.le_of_ble_eq_true rfl) (Nat.le_of_ble_eq_true rfl) hcs ?_
      refine g_if_le hC dX7_restarts_137 (tgt := 150) (by decide) (fun h9 => ?_) (fun h9 => ?_)
      · rw [if_pos h9] at h
        exact g_pick [1, 2] rfl (bX7_restarts_150 hC hcs h0 hk38 hR _ _ h)
      · rw [if_neg h9] at h
        refine g_aload_n hC dX7_restarts_140 1 rfl rfl ?_
        refine g_getr hC dX7_restarts_141 lfRX7_22 (isO_spec h0) (ft_7_3 h0) ?_
        refine g_iload_n hC dX7_restarts_144 3 rfl rfl ?_
        refine g_dup2 hC dX7_restarts_145 rfl rfl ?_
        obtain ⟨b9, h⟩ := of_ite h
        refine g_iald hC dX7_restarts_146 (isA_spec (rf_7_3 h0)) b9 ?_
        refine g_iconst hC dX7_restarts_147 ok_1 ?_
        refine g_iadd hC dX7_restarts_148 ?_
        obtain ⟨b9, h⟩ := of_ite h
        refine g_iast hC dX7_restarts_149 (isA_spec (rf_7_3 h0)) b9 ?_
        exact g_pick [1, 2] rfl (bX7_restarts_150 hC hcs h0 hk38 hR _ _ h)
    · rw [if_pos h9] at h
      refine g_aload_n hC dX7_restarts_115 1 rfl rfl ?_
      refine g_getr hC dX7_restarts_116 lfRX7_18 (isO_spec h0) (ft_7_2 h0) ?_
      refine g_iload_n hC dX7_restarts_119 3 rfl rfl ?_
      refine g_dup2 hC dX7_restarts_120 rfl rfl ?_
      obtain ⟨b9, h⟩ := of_ite h
      refine g_iald hC dX7_restarts_121 (isA_spec (rf_7_2 h0)) b9 ?_
      refine g_iconst hC dX7_restarts_122 ok_1 ?_
      refine g_iadd hC dX7_restarts_123 ?_
      obtain ⟨b9, h⟩ := of_ite h
      refine g_iast hC dX7_restarts_124 (isA_spec (rf_7_2 h0)) b9 ?_
      refine g_goto hC dX7_restarts_125 (tgt := 150) (by decide) ?_
      exact g_pick [1, 2] rfl (bX7_restarts_150 hC hcs h0 hk38 hR _ _ h)
  · rw [if_pos h9] at h
    refine g_aload_n hC dX7_restarts_88 1 rfl rfl ?_
    refine g_dup hC dX7_restarts_89 rfl ?_
    refine g_geti hC dX7_restarts_90 lfRX7_51 (isO_spec h0) (ft_7_8 h0) ?_
    refine g_iload_n hC dX7_restarts_93 0 rfl rfl ?_
    refine g_if_eq hC dX7_restarts_94 (tgt := 101) (by decide) (fun h9 => ?_) (fun h9 => ?_)
    · rw [if_pos h9] at h
      refine g_iconst hC dX7_restarts_101 ok_1 ?_
      refine g_iload_n hC dX7_restarts_102 2 rfl rfl ?_
      refine g_ishl hC dX7_restarts_103 ?_
      exact g_pick [1, 2] rfl (bX7_restarts_104 hC hcs h0 hk38 hR _ _ _ _ _ h0 h)
    · rw [if_neg h9] at h
      refine g_iconst hC dX7_restarts_97 ok_0 ?_
      refine g_goto hC dX7_restarts_98 (tgt := 104) (by decide) ?_
      exact g_pick [1, 2] rfl (bX7_restarts_104 hC hcs h0 hk38 hR _ _ _ _ _ h0 h)
theorem bX7_restarts_38 {K : KT} {g : GT} {cm sm : Nat} {cs : Nat × Nat} {c0 : Nat} {σ' : St} (hC : Ctx K g RX7 cX7_restarts 4 1 cm sm) (hcs : cs.1 ≤ cm ∧ cs.2 ≤ sm) (h0 : isO 7 c0 = true) (hR : RetV K g cX7_restarts 4 cs (SH0, σ')) : ∀ (n : Nat) (x1 : Int) (σ : St), fX7_restarts_38 c0 n x1 σ = some σ' → G K g 4 cs 38 [(0, vr c0), (1, vi x1)] [] (SH0, σ) := by
  intro n
  induction n with
  | zero =>
    intro x1 σ h
    rw [fX7_restarts_38.eq_1] at h
    cases h
  | succ n ih =>
    intro x1 σ h
    rw [fX7_restarts_38.eq_2] at h
    refine g_iload_n hC dX7_restarts_38 1 rfl rfl ?_
    refine g_aload_n hC dX7_restarts_39 0 rfl rfl ?_
    refine g_getr hC dX7_restarts_40 lfRX7_12 (isO_spec h0) (ft_7_0 h0) ?_
    refine g_geti hC dX7_restarts_43 lfRX7_64 (isO_spec (rf_7_0 h0)) (ft_2_2 (rf_7_0 h0)) ?_
    refine g_icmp_ge hC dX7_restarts_46 (tgt := 156) (by decide) (fun h9 => ?_) (fun h9 => ?_)
    · rw [if_pos h9] at h
      exact ret_v h hR dX7_restarts_156
    · rw [if_neg h9] at h
      refine g_aload_n hC dX7_restarts_49 0 rfl rfl ?_
      refine g_getr hC dX7_restarts_50 lfRX7_12 (isO_spec h0) (ft_7_0 h0) ?_
      refine g_iload_n hC dX7_restarts_53 1 rfl rfl ?_
      refine g_iconst hC dX7_restarts_54 ok_1 ?_
      obtain ⟨⟨r1, s1⟩, e1, h⟩ := of_bind h
      try dsimp only at h
      refine s_callVi hC dX7_restarts_55 (tX2_number (rf_7_0 h0) e1) miX2_number mvX2_number mlRX7_67 (isO_spec (rf_7_0 h0)) vc_2 rfl rfl (Nat.le_of_ble_eq_true rfl) (Nat.le_of_ble_eq_true rfl) (Nat.le_of_ble_eq_true rfl) hcs ?_
      refine g_istore_n hC dX7_restarts_58 rfl (Nat.le_of_ble_eq_true rfl) rfl ?_
      refine g_aload_n hC dX7_restarts_59 1 rfl rfl ?_
      refine g_getr hC dX7_restarts_60 lfRX7_12 (isO_spec h0) (ft_7_0 h0) ?_
      refine g_iload_n hC dX7_restarts_63 2 rfl rfl ?_
      refine g_iconst hC dX7_restarts_64 ok_2 ?_
      obtain ⟨⟨r2, s2⟩, e2, h⟩ := of_bind h
      try dsimp only at h
      refine s_callVi hC dX7_restarts_65 (tX2_number (rf_7_0 h0) e2) miX2_number mvX2_number mlRX7_67 (isO_spec (rf_7_0 h0)) vc_2 rfl rfl (Nat.le_of_ble_eq_true rfl) (Nat.le_of_ble_eq_true rfl) (Nat.le_of_ble_eq_true rfl) hcs ?_
      refine g_if_eq hC dX7_restarts_68 (tgt := 75) (by decide) (fun h9 => ?_) (fun h9 => ?_)
      · rw [if_pos h9] at h
        refine g_iconst hC dX7_restarts_75 ok_0 ?_
        exact g_pick [1, 2, 0] rfl (bX7_restarts_76 hC hcs h0 ih hR _ _ _ _ h)
      · rw [if_neg h9] at h
        refine g_iconst hC dX7_restarts_71 ok_1 ?_
        refine g_goto hC dX7_restarts_72 (tgt := 76) (by decide) ?_
        exact g_pick [1, 2, 0] rfl (bX7_restarts_76 hC hcs h0 ih hR _ _ _ _ h)
theorem bX7_restarts_0 {K : KT} {g : GT} {cm sm : Nat} {cs : Nat × Nat} {c0 : Nat} {σ' : St} (hC : Ctx K g RX7 cX7_restarts 4 1 cm sm) (hcs : cs.1 ≤ cm ∧ cs.2 ≤ sm) (h0 : isO 7 c0 = true) (hR : RetV K g cX7_restarts 4 cs (SH0, σ')) : ∀ (σ : St), fX7_restarts c0 σ = some σ' → G K g 4 cs 0 [(0, vr c0)] [] (SH0, σ) := by
  intro σ h
  unfold fX7_restarts at h
  refine g_aload_n hC dX7_restarts_0 0 rfl rfl ?_
  refine g_iconst hC dX7_restarts_1 ok_0 ?_
  refine g_puti hC dX7_restarts_2 lfRX7_51 fp_7_8 (isO_spec h0) (ft_7_8 h0) ?_
  refine g_aload_n hC dX7_restarts_5 0 rfl rfl ?_
  refine g_iconst hC dX7_restarts_6 ok_0 ?_
  refine g_puti hC dX7_restarts_7 lfRX7_55 fp_7_9 (isO_spec h0) (ft_7_9 h0) ?_
  refine g_aload_n hC dX7_restarts_10 0 rfl rfl ?_
  refine g_iconst hC dX7_restarts_11 ok_0 ?_
  refine g_puti hC dX7_restarts_12 lfRX7_58 fp_7_10 (isO_spec h0) (ft_7_10 h0) ?_
  refine g_aload_n hC dX7_restarts_15 0 rfl rfl ?_
  refine g_iconst hC dX7_restarts_16 ok_0 ?_
  refine g_puti hC dX7_restarts_17 lfRX7_61 fp_7_11 (isO_spec h0) (ft_7_11 h0) ?_
  refine g_aload_n hC dX7_restarts_20 0 rfl rfl ?_
  refine g_getr hC dX7_restarts_21 lfRX7_18 (isO_spec h0) (ft_7_2 h0) ?_
  refine g_iconst hC dX7_restarts_24 ok_0 ?_
  obtain ⟨s1, e1, h⟩ := of_bind h
  try dsimp only at h
  refine s_callSv hC dX7_restarts_25 (tJ7_fill_53178 (rf_7_2 h0) e1) miJ7_fill_53178 msJ7_fill_53178 mlRX7_42 rfl rfl (Nat.le_of_ble_eq_true rfl) (Nat.le_of_ble_eq_true rfl) (Nat.le_of_ble_eq_true rfl) hcs ?_
  refine g_aload_n hC dX7_restarts_28 0 rfl rfl ?_
  refine g_getr hC dX7_restarts_29 lfRX7_22 (isO_spec h0) (ft_7_3 h0) ?_
  refine g_iconst hC dX7_restarts_32 ok_0 ?_
  obtain ⟨s2, e2, h⟩ := of_bind h
  try dsimp only at h
  refine s_callSv hC dX7_restarts_33 (tJ7_fill_53178 (rf_7_3 h0) e2) miJ7_fill_53178 msJ7_fill_53178 mlRX7_42 rfl rfl (Nat.le_of_ble_eq_true rfl) (Nat.le_of_ble_eq_true rfl) (Nat.le_of_ble_eq_true rfl) hcs ?_
  refine g_iconst hC dX7_restarts_36 ok_0 ?_
  refine g_istore_n hC dX7_restarts_37 rfl (Nat.le_of_ble_eq_true rfl) rfl ?_
  exact g_pick [1, 0] rfl (bX7_restarts_38 hC hcs h0 hR _ _ _ h)
theorem tX7_restarts {l : Launch} {g : GT} {c0 : Nat} {σ σ' : St} (h0 : isO 7 c0 = true) (h : fX7_restarts c0 σ = some σ') : Cn l g yX7_restarts cX7_restarts 4 none 1 0 0 [vr c0] (SH0, σ) none (SH0, σ') :=
  Cn.ofV (by decide) (Nat.le_of_ble_eq_true rfl) (fun K e hC hR => (bX7_restarts_0 hC ⟨Nat.le_refl _, Nat.le_refl _⟩ h0 hR _ h))
theorem dX7_begin_0 : decode cX7_begin 0 = .ok (.aload_n 0, 1) := by decide +kernel
theorem dX7_begin_1 : decode cX7_begin 1 = .ok (.getfield 12, 3) := by decide +kernel
theorem dX7_begin_4 : decode cX7_begin 4 = .ok (.aload_n 1, 1) := by decide +kernel
theorem dX7_begin_5 : decode cX7_begin 5 = .ok (.invokevirtual 38, 3) := by decide +kernel
theorem dX7_begin_8 : decode cX7_begin 8 = .ok (.aload_n 0, 1) := by decide +kernel
theorem dX7_begin_9 : decode cX7_begin 9 = .ok (.getfield 25, 3) := by decide +kernel
theorem dX7_begin_12 : decode cX7_begin 12 = .ok (.iconst (-1), 1) := by decide +kernel
theorem dX7_begin_13 : decode cX7_begin 13 = .ok (.invokestatic 42, 3) := by decide +kernel
theorem dX7_begin_16 : decode cX7_begin 16 = .ok (.aload_n 0, 1) := by decide +kernel
theorem dX7_begin_17 : decode cX7_begin 17 = .ok (.invokevirtual 48, 3) := by decide +kernel
theorem dX7_begin_20 : decode cX7_begin 20 = .ok (.return_, 1) := by decide +kernel
theorem bX7_begin_0 {K : KT} {g : GT} {cm sm : Nat} {cs : Nat × Nat} {c0 : Nat} {c1 : Nat} {σ' : St} (hC : Ctx K g RX7 cX7_begin 2 2 cm sm) (hcs : cs.1 ≤ cm ∧ cs.2 ≤ sm) (h0 : isO 7 c0 = true) (h1 : isO 2 c1 = true) (hR : RetV K g cX7_begin 2 cs (SH0, σ')) : ∀ (σ : St), fX7_begin c0 c1 σ = some σ' → G K g 2 cs 0 [(0, vr c0), (1, vr c1)] [] (SH0, σ) := by
  intro σ h
  unfold fX7_begin at h
  refine g_aload_n hC dX7_begin_0 0 rfl rfl ?_
  refine g_getr hC dX7_begin_1 lfRX7_12 (isO_spec h0) (ft_7_0 h0) ?_
  refine g_aload_n hC dX7_begin_4 1 rfl rfl ?_
  obtain ⟨s1, e1, h⟩ := of_bind h
  try dsimp only at h
  refine s_callVv hC dX7_begin_5 (tX2_copies (rf_7_0 h0) h1 e1) miX2_copies mvX2_copies mlRX7_38 (isO_spec (rf_7_0 h0)) vc_2 rfl rfl (Nat.le_of_ble_eq_true rfl) (Nat.le_of_ble_eq_true rfl) (Nat.le_of_ble_eq_true rfl) hcs ?_
  refine g_aload_n hC dX7_begin_8 0 rfl rfl ?_
  refine g_getr hC dX7_begin_9 lfRX7_25 (isO_spec h0) (ft_7_4 h0) ?_
  refine g_iconst hC dX7_begin_12 ok_m1 ?_
  obtain ⟨s2, e2, h⟩ := of_bind h
  try dsimp only at h
  refine s_callSv hC dX7_begin_13 (tJ7_fill_53178 (rf_7_4 h0) e2) miJ7_fill_53178 msJ7_fill_53178 mlRX7_42 rfl rfl (Nat.le_of_ble_eq_true rfl) (Nat.le_of_ble_eq_true rfl) (Nat.le_of_ble_eq_true rfl) hcs ?_
  refine g_aload_n hC dX7_begin_16 0 rfl rfl ?_
  obtain ⟨s3, e3, h⟩ := of_bind h
  try dsimp only at h
  refine s_callVv hC dX7_begin_17 (tX7_restarts h0 e3) miX7_restarts mvX7_restarts mlRX7_48 (isO_spec h0) vc_7 rfl rfl (Nat.le_of_ble_eq_true rfl) (Nat.le_of_ble_eq_true rfl) (Nat.le_of_ble_eq_true rfl) hcs ?_
  exact ret_v h hR dX7_begin_20
theorem tX7_begin {l : Launch} {g : GT} {c0 : Nat} {c1 : Nat} {σ σ' : St} (h0 : isO 7 c0 = true) (h1 : isO 2 c1 = true) (h : fX7_begin c0 c1 σ = some σ') : Cn l g yX7_begin cX7_begin 2 none 2 0 0 [vr c0, vr c1] (SH0, σ) none (SH0, σ') :=
  Cn.ofV (by decide) (Nat.le_of_ble_eq_true rfl) (fun K e hC hR => (bX7_begin_0 hC ⟨Nat.le_refl _, Nat.le_refl _⟩ h0 h1 hR _ h))
theorem dX6_hasRun_0 : decode cX6_hasRun 0 = .ok (.iload_n 1, 1) := by decide +kernel
theorem dX6_hasRun_1 : decode cX6_hasRun 1 = .ok (.ifCond .lt 29, 3) := by decide +kernel
theorem dX6_hasRun_4 : decode cX6_hasRun 4 = .ok (.iload_n 2, 1) := by decide +kernel
theorem dX6_hasRun_5 : decode cX6_hasRun 5 = .ok (.ifCond .lt 25, 3) := by decide +kernel
theorem dX6_hasRun_8 : decode cX6_hasRun 8 = .ok (.iload_n 1, 1) := by decide +kernel
theorem dX6_hasRun_9 : decode cX6_hasRun 9 = .ok (.aload_n 0, 1) := by decide +kernel
theorem dX6_hasRun_10 : decode cX6_hasRun 10 = .ok (.getfield 19, 3) := by decide +kernel
theorem dX6_hasRun_13 : decode cX6_hasRun 13 = .ok (.if_icmp .gt 17, 3) := by decide +kernel
theorem dX6_hasRun_16 : decode cX6_hasRun 16 = .ok (.iload_n 2, 1) := by decide +kernel
theorem dX6_hasRun_17 : decode cX6_hasRun 17 = .ok (.aload_n 0, 1) := by decide +kernel
theorem dX6_hasRun_18 : decode cX6_hasRun 18 = .ok (.getfield 19, 3) := by decide +kernel
theorem dX6_hasRun_21 : decode cX6_hasRun 21 = .ok (.iload_n 1, 1) := by decide +kernel
theorem dX6_hasRun_22 : decode cX6_hasRun 22 = .ok (.isub, 1) := by decide +kernel
theorem dX6_hasRun_23 : decode cX6_hasRun 23 = .ok (.if_icmp .gt 7, 3) := by decide +kernel
theorem dX6_hasRun_26 : decode cX6_hasRun 26 = .ok (.iconst 1, 1) := by decide +kernel
theorem dX6_hasRun_27 : decode cX6_hasRun 27 = .ok (.goto 4, 3) := by decide +kernel
theorem dX6_hasRun_30 : decode cX6_hasRun 30 = .ok (.iconst 0, 1) := by decide +kernel
theorem dX6_hasRun_31 : decode cX6_hasRun 31 = .ok (.ireturn, 1) := by decide +kernel
theorem bX6_hasRun_0 {K : KT} {g : GT} {cm sm : Nat} {cs : Nat × Nat} {c0 : Nat} {x1 : Int} {x2 : Int} {r : Int} {σ' : St} (hC : Ctx K g RX6 cX6_hasRun 3 0 cm sm) (hcs : cs.1 ≤ cm ∧ cs.2 ≤ sm) (h0 : isO 6 c0 = true) (hR : RetZ K g cX6_hasRun 3 cs r (SH0, σ')) : ∀ (σ : St), fX6_hasRun c0 x1 x2 σ = some (r, σ') → G K g 3 cs 0 [(0, vr c0), (1, vi x1), (2, vi x2)] [] (SH0, σ) := by
  intro σ h
  unfold fX6_hasRun at h
  refine g_iload_n hC dX6_hasRun_0 1 rfl rfl ?_
  refine g_if_lt hC dX6_hasRun_1 (tgt := 30) (by decide) (fun h9 => ?_) (fun h9 => ?_)
  · rw [if_pos h9] at h
    refine g_iconst hC dX6_hasRun_30 ok_0 ?_
    exact ret_z h hR (by decide) dX6_hasRun_31
  · rw [if_neg h9] at h
    refine g_iload_n hC dX6_hasRun_4 2 rfl rfl ?_
    refine g_if_lt hC dX6_hasRun_5 (tgt := 30) (by decide) (fun h9 => ?_) (fun h9 => ?_)
    · rw [if_pos h9] at h
      refine g_iconst hC dX6_hasRun_30 ok_0 ?_
      exact ret_z h hR (by decide) dX6_hasRun_31
    · rw [if_neg h9] at h
      refine g_iload_n hC dX6_hasRun_8 1 rfl rfl ?_
      refine g_aload_n hC dX6_hasRun_9 0 rfl rfl ?_
      refine g_geti hC dX6_hasRun_10 lfRX6_19 (isO_spec h0) (ft_6_4 h0) ?_
      refine g_icmp_gt hC dX6_hasRun_13 (tgt := 30) (by decide) (fun h9 => ?_) (fun h9 => ?_)
      · rw [if_pos h9] at h
        refine g_iconst hC dX6_hasRun_30 ok_0 ?_
        exact ret_z h hR (by decide) dX6_hasRun_31
      · rw [if_neg h9] at h
        refine g_iload_n hC dX6_hasRun_16 2 rfl rfl ?_
        refine g_aload_n hC dX6_hasRun_17 0 rfl rfl ?_
        refine g_geti hC dX6_hasRun_18 lfRX6_19 (isO_spec h0) (ft_6_4 h0) ?_
        refine g_iload_n hC dX6_hasRun_21 1 rfl rfl ?_
        refine g_isub hC dX6_hasRun_22 ?_
        refine g_icmp_gt hC dX6_hasRun_23 (tgt := 30) (by decide) (fun h9 => ?_) (fun h9 => ?_)
        · rw [if_pos h9] at h
          refine g_iconst hC dX6_hasRun_30 ok_0 ?_
          exact ret_z h hR (by decide) dX6_hasRun_31
        · rw [if_neg h9] at h
          refine g_iconst hC dX6_hasRun_26 ok_1 ?_
          refine g_goto hC dX6_hasRun_27 (tgt := 31) (by decide) ?_
          exact ret_z h hR (by decide) dX6_hasRun_31
theorem tX6_hasRun {l : Launch} {g : GT} {c0 : Nat} {x1 : Int} {x2 : Int} {σ σ' : St} {r : Int} (h0 : isO 6 c0 = true) (h : fX6_hasRun c0 x1 x2 σ = some (r, σ')) : Cn l g yX6_hasRun cX6_hasRun 3 (some .boolean) 0 0 0 [vr c0, vi x1, vi x2] (SH0, σ) (some (vi r)) (SH0, σ') :=
  Cn.ofZ (by decide) (Nat.le_of_ble_eq_true rfl) (fun K e hC hR => (bX6_hasRun_0 hC ⟨Nat.le_refl _, Nat.le_refl _⟩ h0 hR _ h))
theorem dX6_at_0 : decode cX6_at 0 = .ok (.aload_n 0, 1) := by decide +kernel
theorem dX6_at_1 : decode cX6_at 1 = .ok (.iload_n 1, 1) := by decide +kernel
theorem dX6_at_2 : decode cX6_at 2 = .ok (.iconst 1, 1) := by decide +kernel
theorem dX6_at_3 : decode cX6_at 3 = .ok (.invokevirtual 47, 3) := by decide +kernel
theorem dX6_at_6 : decode cX6_at 6 = .ok (.ifCond .eq 12, 3) := by decide +kernel
theorem dX6_at_9 : decode cX6_at 9 = .ok (.aload_n 0, 1) := by decide +kernel
theorem dX6_at_10 : decode cX6_at 10 = .ok (.getfield 9, 3) := by decide +kernel
theorem dX6_at_13 : decode cX6_at 13 = .ok (.iload_n 1, 1) := by decide +kernel
theorem dX6_at_14 : decode cX6_at 14 = .ok (.laload, 1) := by decide +kernel
theorem dX6_at_15 : decode cX6_at 15 = .ok (.goto 4, 3) := by decide +kernel
theorem dX6_at_18 : decode cX6_at 18 = .ok (.lconst 0, 1) := by decide +kernel
theorem dX6_at_19 : decode cX6_at 19 = .ok (.lreturn, 1) := by decide +kernel
theorem bX6_at_0 {K : KT} {g : GT} {cm sm : Nat} {cs : Nat × Nat} {c0 : Nat} {x1 : Int} {r : Int} {σ' : St} (hC : Ctx K g RX6 cX6_at 2 1 cm sm) (hcs : cs.1 ≤ cm ∧ cs.2 ≤ sm) (h0 : isO 6 c0 = true) (hR : RetL K g cX6_at 2 cs r (SH0, σ')) : ∀ (σ : St), fX6_at c0 x1 σ = some (r, σ') → G K g 2 cs 0 [(0, vr c0), (1, vi x1)] [] (SH0, σ) := by
  intro σ h
  unfold fX6_at at h
  refine g_aload_n hC dX6_at_0 0 rfl rfl ?_
  refine g_iload_n hC dX6_at_1 1 rfl rfl ?_
  refine g_iconst hC dX6_at_2 ok_1 ?_
  obtain ⟨⟨r1, s1⟩, e1, h⟩ := of_bind h
  try dsimp only at h
  refine s_callVi hC dX6_at_3 (tX6_hasRun h0 e1) miX6_hasRun mvX6_hasRun mlRX6_47 (isO_spec h0) vc_6 rfl rfl (Nat.le_of_ble_eq_true rfl) (Nat.le_of_ble_eq_true rfl) (Nat.le_of_ble_eq_true rfl) hcs ?_
  refine g_if_eq hC dX6_at_6 (tgt := 18) (by decide) (fun h9 => ?_) (fun h9 => ?_)
  · rw [if_pos h9] at h
    refine g_lconst hC dX6_at_18 lc_0 ?_
    exact ret_l h hR dX6_at_19
  · rw [if_neg h9] at h
    refine g_aload_n hC dX6_at_9 0 rfl rfl ?_
    refine g_getr hC dX6_at_10 lfRX6_9 (isO_spec h0) (ft_6_0 h0) ?_
    refine g_iload_n hC dX6_at_13 1 rfl rfl ?_
    obtain ⟨b9, h⟩ := of_ite h
    refine g_lald hC dX6_at_14 (isA_spec (rf_6_0 h0)) b9 ?_
    refine g_goto hC dX6_at_15 (tgt := 19) (by decide) ?_
    exact ret_l h hR dX6_at_19
theorem tX6_at {l : Launch} {g : GT} {c0 : Nat} {x1 : Int} {σ σ' : St} {r : Int} (h0 : isO 6 c0 = true) (h : fX6_at c0 x1 σ = some (r, σ')) : Cn l g yX6_at cX6_at 2 (some .long) 1 0 0 [vr c0, vi x1] (SH0, σ) (some (vl r)) (SH0, σ') :=
  Cn.ofL (by decide) (Nat.le_of_ble_eq_true rfl) (fun K e hC hR => (bX6_at_0 hC ⟨Nat.le_refl _, Nat.le_refl _⟩ h0 hR _ h))
theorem dX2_hasThing_0 : decode cX2_hasThing 0 = .ok (.iload_n 1, 1) := by decide +kernel
theorem dX2_hasThing_1 : decode cX2_hasThing 1 = .ok (.ifCond .lt 15, 3) := by decide +kernel
theorem dX2_hasThing_4 : decode cX2_hasThing 4 = .ok (.iload_n 1, 1) := by decide +kernel
theorem dX2_hasThing_5 : decode cX2_hasThing 5 = .ok (.aload_n 0, 1) := by decide +kernel
theorem dX2_hasThing_6 : decode cX2_hasThing 6 = .ok (.getfield 18, 3) := by decide +kernel
theorem dX2_hasThing_9 : decode cX2_hasThing 9 = .ok (.if_icmp .ge 7, 3) := by decide +kernel
theorem dX2_hasThing_12 : decode cX2_hasThing 12 = .ok (.iconst 1, 1) := by decide +kernel
theorem dX2_hasThing_13 : decode cX2_hasThing 13 = .ok (.goto 4, 3) := by decide +kernel
theorem dX2_hasThing_16 : decode cX2_hasThing 16 = .ok (.iconst 0, 1) := by decide +kernel
theorem dX2_hasThing_17 : decode cX2_hasThing 17 = .ok (.ireturn, 1) := by decide +kernel
theorem bX2_hasThing_0 {K : KT} {g : GT} {cm sm : Nat} {cs : Nat × Nat} {c0 : Nat} {x1 : Int} {r : Int} {σ' : St} (hC : Ctx K g RX2 cX2_hasThing 2 0 cm sm) (hcs : cs.1 ≤ cm ∧ cs.2 ≤ sm) (h0 : isO 2 c0 = true) (hR : RetZ K g cX2_hasThing 2 cs r (SH0, σ')) : ∀ (σ : St), fX2_hasThing c0 x1 σ = some (r, σ') → G K g 2 cs 0 [(0, vr c0), (1, vi x1)] [] (SH0, σ) := by
  intro σ h
  unfold fX2_hasThing at h
  refine g_iload_n hC dX2_hasThing_0 1 rfl rfl ?_
  refine g_if_lt hC dX2_hasThing_1 (tgt := 16) (by decide) (fun h9 => ?_) (fun h9 => ?_)
  · rw [if_pos h9] at h
    refine g_iconst hC dX2_hasThing_16 ok_0 ?_
    exact ret_z h hR (by decide) dX2_hasThing_17
  · rw [if_neg h9] at h
    refine g_iload_n hC dX2_hasThing_4 1 rfl rfl ?_
    refine g_aload_n hC dX2_hasThing_5 0 rfl rfl ?_
    refine g_geti hC dX2_hasThing_6 lfRX2_18 (isO_spec h0) (ft_2_2 h0) ?_
    refine g_icmp_ge hC dX2_hasThing_9 (tgt := 16) (by decide) (fun h9 => ?_) (fun h9 => ?_)
    · rw [if_pos h9] at h
      refine g_iconst hC dX2_hasThing_16 ok_0 ?_
      exact ret_z h hR (by decide) dX2_hasThing_17
    · rw [if_neg h9] at h
      refine g_iconst hC dX2_hasThing_12 ok_1 ?_
      refine g_goto hC dX2_hasThing_13 (tgt := 17) (by decide) ?_
      exact ret_z h hR (by decide) dX2_hasThing_17
theorem tX2_hasThing {l : Launch} {g : GT} {c0 : Nat} {x1 : Int} {σ σ' : St} {r : Int} (h0 : isO 2 c0 = true) (h : fX2_hasThing c0 x1 σ = some (r, σ')) : Cn l g yX2_hasThing cX2_hasThing 2 (some .boolean) 0 0 0 [vr c0, vi x1] (SH0, σ) (some (vi r)) (SH0, σ') :=
  Cn.ofZ (by decide) (Nat.le_of_ble_eq_true rfl) (fun K e hC hR => (bX2_hasThing_0 hC ⟨Nat.le_refl _, Nat.le_refl _⟩ h0 hR _ h))
theorem dX7_lengthOf_0 : decode cX7_lengthOf 0 = .ok (.bipush 16, 2) := by decide +kernel
theorem dX7_lengthOf_2 : decode cX7_lengthOf 2 = .ok (.aload_n 1, 1) := by decide +kernel
theorem dX7_lengthOf_3 : decode cX7_lengthOf 3 = .ok (.getfield 129, 3) := by decide +kernel
theorem dX7_lengthOf_6 : decode cX7_lengthOf 6 = .ok (.invokestatic 85, 3) := by decide +kernel
theorem dX7_lengthOf_9 : decode cX7_lengthOf 9 = .ok (.istore_n 2, 1) := by decide +kernel
theorem dX7_lengthOf_10 : decode cX7_lengthOf 10 = .ok (.iconst 0, 1) := by decide +kernel
theorem dX7_lengthOf_11 : decode cX7_lengthOf 11 = .ok (.istore_n 3, 1) := by decide +kernel
theorem dX7_lengthOf_12 : decode cX7_lengthOf 12 = .ok (.iload_n 3, 1) := by decide +kernel
theorem dX7_lengthOf_13 : decode cX7_lengthOf 13 = .ok (.iload_n 2, 1) := by decide +kernel
theorem dX7_lengthOf_14 : decode cX7_lengthOf 14 = .ok (.if_icmp .ge 27, 3) := by decide +kernel
theorem dX7_lengthOf_17 : decode cX7_lengthOf 17 = .ok (.aload_n 0, 1) := by decide +kernel
theorem dX7_lengthOf_18 : decode cX7_lengthOf 18 = .ok (.getfield 12, 3) := by decide +kernel
theorem dX7_lengthOf_21 : decode cX7_lengthOf 21 = .ok (.aload_n 1, 1) := by decide +kernel
theorem dX7_lengthOf_22 : decode cX7_lengthOf 22 = .ok (.iload_n 3, 1) := by decide +kernel
theorem dX7_lengthOf_23 : decode cX7_lengthOf 23 = .ok (.invokevirtual 119, 3) := by decide +kernel
theorem dX7_lengthOf_26 : decode cX7_lengthOf 26 = .ok (.l2i, 1) := by decide +kernel
theorem dX7_lengthOf_27 : decode cX7_lengthOf 27 = .ok (.invokevirtual 132, 3) := by decide +kernel
theorem dX7_lengthOf_30 : decode cX7_lengthOf 30 = .ok (.ifCond .ne 5, 3) := by decide +kernel
theorem dX7_lengthOf_33 : decode cX7_lengthOf 33 = .ok (.iload_n 3, 1) := by decide +kernel
theorem dX7_lengthOf_34 : decode cX7_lengthOf 34 = .ok (.ireturn, 1) := by decide +kernel
theorem dX7_lengthOf_35 : decode cX7_lengthOf 35 = .ok (.iinc 3 1, 3) := by decide +kernel
theorem dX7_lengthOf_38 : decode cX7_lengthOf 38 = .ok (.goto (-26), 3) := by decide +kernel
theorem dX7_lengthOf_41 : decode cX7_lengthOf 41 = .ok (.iload_n 2, 1) := by decide +kernel
theorem dX7_lengthOf_42 : decode cX7_lengthOf 42 = .ok (.ireturn, 1) := by decide +kernel
theorem bX7_lengthOf_12 {K : KT} {g : GT} {cm sm : Nat} {cs : Nat × Nat} {c0 : Nat} {c1 : Nat} {r : Int} {σ' : St} (hC : Ctx K g RX7 cX7_lengthOf 4 2 cm sm) (hcs : cs.1 ≤ cm ∧ cs.2 ≤ sm) (h0 : isO 7 c0 = true) (h1 : isO 6 c1 = true) (hR : RetI K g cX7_lengthOf 4 cs r (SH0, σ')) : ∀ (n : Nat) (x2 : Int) (x3 : Int) (σ : St), fX7_lengthOf_12 c0 c1 n x2 x3 σ = some (r, σ') → G K g 4 cs 12 [(0, vr c0), (1, vr c1), (2, vi x2), (3, vi x3)] [] (SH0, σ) := by
  intro n
  induction n with
  | zero =>
    intro x2 x3 σ h
    rw [fX7_lengthOf_12.eq_1] at h
    cases h
  | succ n ih =>
    intro x2 x3 σ h
    rw [fX7_lengthOf_12.eq_2] at h
    refine g_iload_n hC dX7_lengthOf_12 3 rfl rfl ?_
    refine g_iload_n hC dX7_lengthOf_13 2 rfl rfl ?_
    refine g_icmp_ge hC dX7_lengthOf_14 (tgt := 41) (by decide) (fun h9 => ?_) (fun h9 => ?_)
    · rw [if_pos h9] at h
      refine g_iload_n hC dX7_lengthOf_41 2 rfl rfl ?_
      exact ret_i h hR dX7_lengthOf_42
    · rw [if_neg h9] at h
      refine g_aload_n hC dX7_lengthOf_17 0 rfl rfl ?_
      refine g_getr hC dX7_lengthOf_18 lfRX7_12 (isO_spec h0) (ft_7_0 h0) ?_
      refine g_aload_n hC dX7_lengthOf_21 1 rfl rfl ?_
      refine g_iload_n hC dX7_lengthOf_22 3 rfl rfl ?_
      obtain ⟨⟨r1, s1⟩, e1, h⟩ := of_bind h
      try dsimp only at h
      refine s_callVl hC dX7_lengthOf_23 (tX6_at h1 e1) miX6_at mvX6_at mlRX7_119 (isO_spec h1) vc_6 rfl rfl (Nat.le_of_ble_eq_true rfl) (Nat.le_of_ble_eq_true rfl) (Nat.le_of_ble_eq_true rfl) hcs ?_
      refine g_l2i hC dX7_lengthOf_26 ?_
      obtain ⟨⟨r2, s2⟩, e2, h⟩ := of_bind h
      try dsimp only at h
      refine s_callVi hC dX7_lengthOf_27 (tX2_hasThing (rf_7_0 h0) e2) miX2_hasThing mvX2_hasThing mlRX7_132 (isO_spec (rf_7_0 h0)) vc_2 rfl rfl (Nat.le_of_ble_eq_true rfl) (Nat.le_of_ble_eq_true rfl) (Nat.le_of_ble_eq_true rfl) hcs ?_
      refine g_if_ne hC dX7_lengthOf_30 (tgt := 35) (by decide) (fun h9 => ?_) (fun h9 => ?_)
      · rw [if_neg h9] at h
        refine g_iinc hC dX7_lengthOf_35 3 rfl (Nat.le_of_ble_eq_true rfl) rfl ?_
        refine g_goto hC dX7_lengthOf_38 (tgt := 12) (by decide) ?_
        exact g_pick [1, 2, 3, 0] rfl (ih _ _ _ h)
      · rw [if_pos h9] at h
        refine g_iload_n hC dX7_lengthOf_33 3 rfl rfl ?_
        exact ret_i h hR dX7_lengthOf_34
theorem bX7_lengthOf_0 {K : KT} {g : GT} {cm sm : Nat} {cs : Nat × Nat} {c0 : Nat} {c1 : Nat} {r : Int} {σ' : St} (hC : Ctx K g RX7 cX7_lengthOf 4 2 cm sm) (hcs : cs.1 ≤ cm ∧ cs.2 ≤ sm) (h0 : isO 7 c0 = true) (h1 : isO 6 c1 = true) (hR : RetI K g cX7_lengthOf 4 cs r (SH0, σ')) : ∀ (σ : St), fX7_lengthOf c0 c1 σ = some (r, σ') → G K g 4 cs 0 [(0, vr c0), (1, vr c1)] [] (SH0, σ) := by
  intro σ h
  unfold fX7_lengthOf at h
  refine g_bipush hC dX7_lengthOf_0 bp_16 ?_
  refine g_aload_n hC dX7_lengthOf_2 1 rfl rfl ?_
  refine g_geti hC dX7_lengthOf_3 lfRX7_129 (isO_spec h1) (ft_6_4 h1) ?_
  refine g_min hC dX7_lengthOf_6 lmRX7_85 mn_1 mn_2 mn_3 (Nat.le_of_ble_eq_true rfl) (Nat.le_of_ble_eq_true rfl) hcs ?_
  refine g_istore_n hC dX7_lengthOf_9 rfl (Nat.le_of_ble_eq_true rfl) rfl ?_
  refine g_iconst hC dX7_lengthOf_10 ok_0 ?_
  refine g_istore_n hC dX7_lengthOf_11 rfl (Nat.le_of_ble_eq_true rfl) rfl ?_
  exact g_pick [2, 3, 1, 0] rfl (bX7_lengthOf_12 hC hcs h0 h1 hR _ _ _ _ h)
theorem tX7_lengthOf {l : Launch} {g : GT} {c0 : Nat} {c1 : Nat} {σ σ' : St} {r : Int} (h0 : isO 7 c0 = true) (h1 : isO 6 c1 = true) (h : fX7_lengthOf c0 c1 σ = some (r, σ')) : Cn l g yX7_lengthOf cX7_lengthOf 4 (some .int) 2 0 0 [vr c0, vr c1] (SH0, σ) (some (vi r)) (SH0, σ') :=
  Cn.ofI (by decide) (Nat.le_of_ble_eq_true rfl) (fun K e hC hR => (bX7_lengthOf_0 hC ⟨Nat.le_refl _, Nat.le_refl _⟩ h0 h1 hR _ h))
