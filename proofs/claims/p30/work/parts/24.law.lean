/-! the law -/
def qsn {α : Type} (w : qMem) (K : Int → Option α) : Option α := if 0 ≤ w 0 (-1) ∧ w 0 (-1) < 2147483648 then K (w 0 (-1)) else none
section ZL
variable {α : Type} {κ : α → Option qPV × qMem} {ph ph2 : Nat} {M : qMI} {pc : Nat} {st : List qPV} {pls : List (Option qPV)} {w : qMem}
theorem z_sl {i : Int} {K : Int → Option α} (hd : decode M.2.1 pc = .ok (.iaload, 1)) (k : ∀ v, qSim κ ph ph2 M (pc + 1) (qI v :: st) pls w (K v)) : qSim κ ph ph2 M pc (qI i :: qR 0 :: st) pls w (qld w 0 (w 0 (-1)) i K) := z_sld hd (fun _ _ => k _)
theorem z_sn {K : Int → Option α} (hd : decode M.2.1 pc = .ok (.arraylength, 1)) (k : ∀ v, qSim κ ph ph2 M (pc + 1) (qI v :: st) pls w (K v)) : qSim κ ph ph2 M pc (qR 0 :: st) pls w (qsn w K) := by
  unfold qsn
  exact z_if (fun h => z_slen hd h.2 h.1 (k _)) (fun _ => z_none)
end ZL
def m_A_law : qMI := (m_W_law.1, m_W_law.2.1, m_W_law.2.2.1, m_W_law.2.2.2.1, 1, 13)
theorem d_A_law_0 : decode m_A_law.2.1 0 = .ok (.new 7, 3) := by decide +kernel
theorem d_A_law_3 : decode m_A_law.2.1 3 = .ok (.dup, 1) := by decide +kernel
theorem d_A_law_4 : decode m_A_law.2.1 4 = .ok (.invokespecial 9, 3) := by decide +kernel
theorem d_A_law_7 : decode m_A_law.2.1 7 = .ok (.astore_n 1, 1) := by decide +kernel
theorem d_A_law_8 : decode m_A_law.2.1 8 = .ok (.new 10, 3) := by decide +kernel
theorem d_A_law_11 : decode m_A_law.2.1 11 = .ok (.dup, 1) := by decide +kernel
theorem d_A_law_12 : decode m_A_law.2.1 12 = .ok (.invokespecial 12, 3) := by decide +kernel
theorem d_A_law_15 : decode m_A_law.2.1 15 = .ok (.astore_n 2, 1) := by decide +kernel
theorem d_A_law_16 : decode m_A_law.2.1 16 = .ok (.iconst 0, 1) := by decide +kernel
theorem d_A_law_17 : decode m_A_law.2.1 17 = .ok (.istore_n 3, 1) := by decide +kernel
theorem d_A_law_18 : decode m_A_law.2.1 18 = .ok (.iload_n 3, 1) := by decide +kernel
theorem d_A_law_19 : decode m_A_law.2.1 19 = .ok (.aload_n 0, 1) := by decide +kernel
theorem d_A_law_20 : decode m_A_law.2.1 20 = .ok (.arraylength, 1) := by decide +kernel
theorem d_A_law_21 : decode m_A_law.2.1 21 = .ok (.bipush 7, 2) := by decide +kernel
theorem d_A_law_23 : decode m_A_law.2.1 23 = .ok (.isub, 1) := by decide +kernel
theorem d_A_law_24 : decode m_A_law.2.1 24 = .ok (.if_icmp .gt 1186, 3) := by decide +kernel
theorem d_A_law_27 : decode m_A_law.2.1 27 = .ok (.aload_n 0, 1) := by decide +kernel
theorem d_A_law_28 : decode m_A_law.2.1 28 = .ok (.iload_n 3, 1) := by decide +kernel
theorem d_A_law_29 : decode m_A_law.2.1 29 = .ok (.iaload, 1) := by decide +kernel
theorem d_A_law_30 : decode m_A_law.2.1 30 = .ok (.bipush 31, 2) := by decide +kernel
theorem d_A_law_32 : decode m_A_law.2.1 32 = .ok (.iand, 1) := by decide +kernel
theorem d_A_law_33 : decode m_A_law.2.1 33 = .ok (.tableswitch 1171 0 31 #[143, 218, 251, 274, 307, 330, 353, 376, 409, 462, 495, 528, 561, 604, 637, 670, 703, 736, 769, 802, 835, 878, 911, 944, 967, 980, 993, 1006, 1039, 1072, 1095, 1148], 143) := by decide +kernel
theorem d_A_law_176 : decode m_A_law.2.1 176 = .ok (.aload_n 1, 1) := by decide +kernel
theorem d_A_law_177 : decode m_A_law.2.1 177 = .ok (.aload_n 0, 1) := by decide +kernel
theorem d_A_law_178 : decode m_A_law.2.1 178 = .ok (.iload_n 3, 1) := by decide +kernel
theorem d_A_law_179 : decode m_A_law.2.1 179 = .ok (.iconst 1, 1) := by decide +kernel
theorem d_A_law_180 : decode m_A_law.2.1 180 = .ok (.iadd, 1) := by decide +kernel
theorem d_A_law_181 : decode m_A_law.2.1 181 = .ok (.iaload, 1) := by decide +kernel
theorem d_A_law_182 : decode m_A_law.2.1 182 = .ok (.aload_n 0, 1) := by decide +kernel
theorem d_A_law_183 : decode m_A_law.2.1 183 = .ok (.iload_n 3, 1) := by decide +kernel
theorem d_A_law_184 : decode m_A_law.2.1 184 = .ok (.iconst 2, 1) := by decide +kernel
theorem d_A_law_185 : decode m_A_law.2.1 185 = .ok (.iadd, 1) := by decide +kernel
theorem d_A_law_186 : decode m_A_law.2.1 186 = .ok (.iaload, 1) := by decide +kernel
theorem d_A_law_187 : decode m_A_law.2.1 187 = .ok (.aload_n 0, 1) := by decide +kernel
theorem d_A_law_188 : decode m_A_law.2.1 188 = .ok (.iload_n 3, 1) := by decide +kernel
theorem d_A_law_189 : decode m_A_law.2.1 189 = .ok (.iconst 3, 1) := by decide +kernel
theorem d_A_law_190 : decode m_A_law.2.1 190 = .ok (.iadd, 1) := by decide +kernel
theorem d_A_law_191 : decode m_A_law.2.1 191 = .ok (.iaload, 1) := by decide +kernel
theorem d_A_law_192 : decode m_A_law.2.1 192 = .ok (.aload_n 0, 1) := by decide +kernel
theorem d_A_law_193 : decode m_A_law.2.1 193 = .ok (.iload_n 3, 1) := by decide +kernel
theorem d_A_law_194 : decode m_A_law.2.1 194 = .ok (.iconst 4, 1) := by decide +kernel
theorem d_A_law_195 : decode m_A_law.2.1 195 = .ok (.iadd, 1) := by decide +kernel
theorem d_A_law_196 : decode m_A_law.2.1 196 = .ok (.iaload, 1) := by decide +kernel
theorem d_A_law_197 : decode m_A_law.2.1 197 = .ok (.aload_n 0, 1) := by decide +kernel
theorem d_A_law_198 : decode m_A_law.2.1 198 = .ok (.iload_n 3, 1) := by decide +kernel
theorem d_A_law_199 : decode m_A_law.2.1 199 = .ok (.iconst 5, 1) := by decide +kernel
theorem d_A_law_200 : decode m_A_law.2.1 200 = .ok (.iadd, 1) := by decide +kernel
theorem d_A_law_201 : decode m_A_law.2.1 201 = .ok (.iaload, 1) := by decide +kernel
theorem d_A_law_202 : decode m_A_law.2.1 202 = .ok (.aload_n 0, 1) := by decide +kernel
theorem d_A_law_203 : decode m_A_law.2.1 203 = .ok (.iload_n 3, 1) := by decide +kernel
theorem d_A_law_204 : decode m_A_law.2.1 204 = .ok (.bipush 6, 2) := by decide +kernel
theorem d_A_law_206 : decode m_A_law.2.1 206 = .ok (.iadd, 1) := by decide +kernel
theorem d_A_law_207 : decode m_A_law.2.1 207 = .ok (.iaload, 1) := by decide +kernel
theorem d_A_law_208 : decode m_A_law.2.1 208 = .ok (.invokevirtual 13, 3) := by decide +kernel
theorem d_A_law_211 : decode m_A_law.2.1 211 = .ok (.pop, 1) := by decide +kernel
theorem d_A_law_212 : decode m_A_law.2.1 212 = .ok (.aload_n 2, 1) := by decide +kernel
theorem d_A_law_213 : decode m_A_law.2.1 213 = .ok (.aload_n 0, 1) := by decide +kernel
theorem d_A_law_214 : decode m_A_law.2.1 214 = .ok (.iload_n 3, 1) := by decide +kernel
theorem d_A_law_215 : decode m_A_law.2.1 215 = .ok (.iconst 1, 1) := by decide +kernel
theorem d_A_law_216 : decode m_A_law.2.1 216 = .ok (.iadd, 1) := by decide +kernel
theorem d_A_law_217 : decode m_A_law.2.1 217 = .ok (.iaload, 1) := by decide +kernel
theorem d_A_law_218 : decode m_A_law.2.1 218 = .ok (.aload_n 0, 1) := by decide +kernel
theorem d_A_law_219 : decode m_A_law.2.1 219 = .ok (.iload_n 3, 1) := by decide +kernel
theorem d_A_law_220 : decode m_A_law.2.1 220 = .ok (.iconst 2, 1) := by decide +kernel
theorem d_A_law_221 : decode m_A_law.2.1 221 = .ok (.iadd, 1) := by decide +kernel
theorem d_A_law_222 : decode m_A_law.2.1 222 = .ok (.iaload, 1) := by decide +kernel
theorem d_A_law_223 : decode m_A_law.2.1 223 = .ok (.aload_n 0, 1) := by decide +kernel
theorem d_A_law_224 : decode m_A_law.2.1 224 = .ok (.iload_n 3, 1) := by decide +kernel
theorem d_A_law_225 : decode m_A_law.2.1 225 = .ok (.iconst 3, 1) := by decide +kernel
theorem d_A_law_226 : decode m_A_law.2.1 226 = .ok (.iadd, 1) := by decide +kernel
theorem d_A_law_227 : decode m_A_law.2.1 227 = .ok (.iaload, 1) := by decide +kernel
theorem d_A_law_228 : decode m_A_law.2.1 228 = .ok (.aload_n 0, 1) := by decide +kernel
theorem d_A_law_229 : decode m_A_law.2.1 229 = .ok (.iload_n 3, 1) := by decide +kernel
theorem d_A_law_230 : decode m_A_law.2.1 230 = .ok (.iconst 4, 1) := by decide +kernel
theorem d_A_law_231 : decode m_A_law.2.1 231 = .ok (.iadd, 1) := by decide +kernel
theorem d_A_law_232 : decode m_A_law.2.1 232 = .ok (.iaload, 1) := by decide +kernel
theorem d_A_law_233 : decode m_A_law.2.1 233 = .ok (.aload_n 0, 1) := by decide +kernel
theorem d_A_law_234 : decode m_A_law.2.1 234 = .ok (.iload_n 3, 1) := by decide +kernel
theorem d_A_law_235 : decode m_A_law.2.1 235 = .ok (.iconst 5, 1) := by decide +kernel
theorem d_A_law_236 : decode m_A_law.2.1 236 = .ok (.iadd, 1) := by decide +kernel
theorem d_A_law_237 : decode m_A_law.2.1 237 = .ok (.iaload, 1) := by decide +kernel
theorem d_A_law_238 : decode m_A_law.2.1 238 = .ok (.aload_n 0, 1) := by decide +kernel
theorem d_A_law_239 : decode m_A_law.2.1 239 = .ok (.iload_n 3, 1) := by decide +kernel
theorem d_A_law_240 : decode m_A_law.2.1 240 = .ok (.bipush 6, 2) := by decide +kernel
theorem d_A_law_242 : decode m_A_law.2.1 242 = .ok (.iadd, 1) := by decide +kernel
theorem d_A_law_243 : decode m_A_law.2.1 243 = .ok (.iaload, 1) := by decide +kernel
theorem d_A_law_244 : decode m_A_law.2.1 244 = .ok (.invokevirtual 17, 3) := by decide +kernel
theorem d_A_law_247 : decode m_A_law.2.1 247 = .ok (.pop, 1) := by decide +kernel
theorem d_A_law_248 : decode m_A_law.2.1 248 = .ok (.goto 956, 3) := by decide +kernel
theorem d_A_law_251 : decode m_A_law.2.1 251 = .ok (.aload_n 1, 1) := by decide +kernel
theorem d_A_law_252 : decode m_A_law.2.1 252 = .ok (.aload_n 0, 1) := by decide +kernel
theorem d_A_law_253 : decode m_A_law.2.1 253 = .ok (.iload_n 3, 1) := by decide +kernel
theorem d_A_law_254 : decode m_A_law.2.1 254 = .ok (.iconst 1, 1) := by decide +kernel
theorem d_A_law_255 : decode m_A_law.2.1 255 = .ok (.iadd, 1) := by decide +kernel
theorem d_A_law_256 : decode m_A_law.2.1 256 = .ok (.iaload, 1) := by decide +kernel
theorem d_A_law_257 : decode m_A_law.2.1 257 = .ok (.aload_n 0, 1) := by decide +kernel
theorem d_A_law_258 : decode m_A_law.2.1 258 = .ok (.iload_n 3, 1) := by decide +kernel
theorem d_A_law_259 : decode m_A_law.2.1 259 = .ok (.iconst 2, 1) := by decide +kernel
theorem d_A_law_260 : decode m_A_law.2.1 260 = .ok (.iadd, 1) := by decide +kernel
theorem d_A_law_261 : decode m_A_law.2.1 261 = .ok (.iaload, 1) := by decide +kernel
theorem d_A_law_262 : decode m_A_law.2.1 262 = .ok (.invokevirtual 18, 3) := by decide +kernel
theorem d_A_law_265 : decode m_A_law.2.1 265 = .ok (.pop, 1) := by decide +kernel
theorem d_A_law_266 : decode m_A_law.2.1 266 = .ok (.aload_n 2, 1) := by decide +kernel
theorem d_A_law_267 : decode m_A_law.2.1 267 = .ok (.aload_n 0, 1) := by decide +kernel
theorem d_A_law_268 : decode m_A_law.2.1 268 = .ok (.iload_n 3, 1) := by decide +kernel
theorem d_A_law_269 : decode m_A_law.2.1 269 = .ok (.iconst 1, 1) := by decide +kernel
theorem d_A_law_270 : decode m_A_law.2.1 270 = .ok (.iadd, 1) := by decide +kernel
theorem d_A_law_271 : decode m_A_law.2.1 271 = .ok (.iaload, 1) := by decide +kernel
theorem d_A_law_272 : decode m_A_law.2.1 272 = .ok (.aload_n 0, 1) := by decide +kernel
theorem d_A_law_273 : decode m_A_law.2.1 273 = .ok (.iload_n 3, 1) := by decide +kernel
theorem d_A_law_274 : decode m_A_law.2.1 274 = .ok (.iconst 2, 1) := by decide +kernel
theorem d_A_law_275 : decode m_A_law.2.1 275 = .ok (.iadd, 1) := by decide +kernel
theorem d_A_law_276 : decode m_A_law.2.1 276 = .ok (.iaload, 1) := by decide +kernel
theorem d_A_law_277 : decode m_A_law.2.1 277 = .ok (.invokevirtual 22, 3) := by decide +kernel
theorem d_A_law_280 : decode m_A_law.2.1 280 = .ok (.pop, 1) := by decide +kernel
theorem d_A_law_281 : decode m_A_law.2.1 281 = .ok (.goto 923, 3) := by decide +kernel
theorem d_A_law_284 : decode m_A_law.2.1 284 = .ok (.aload_n 1, 1) := by decide +kernel
theorem d_A_law_285 : decode m_A_law.2.1 285 = .ok (.aload_n 0, 1) := by decide +kernel
theorem d_A_law_286 : decode m_A_law.2.1 286 = .ok (.iload_n 3, 1) := by decide +kernel
theorem d_A_law_287 : decode m_A_law.2.1 287 = .ok (.iconst 1, 1) := by decide +kernel
theorem d_A_law_288 : decode m_A_law.2.1 288 = .ok (.iadd, 1) := by decide +kernel
theorem d_A_law_289 : decode m_A_law.2.1 289 = .ok (.iaload, 1) := by decide +kernel
theorem d_A_law_290 : decode m_A_law.2.1 290 = .ok (.invokevirtual 23, 3) := by decide +kernel
theorem d_A_law_293 : decode m_A_law.2.1 293 = .ok (.pop, 1) := by decide +kernel
theorem d_A_law_294 : decode m_A_law.2.1 294 = .ok (.aload_n 2, 1) := by decide +kernel
theorem d_A_law_295 : decode m_A_law.2.1 295 = .ok (.aload_n 0, 1) := by decide +kernel
theorem d_A_law_296 : decode m_A_law.2.1 296 = .ok (.iload_n 3, 1) := by decide +kernel
theorem d_A_law_297 : decode m_A_law.2.1 297 = .ok (.iconst 1, 1) := by decide +kernel
theorem d_A_law_298 : decode m_A_law.2.1 298 = .ok (.iadd, 1) := by decide +kernel
theorem d_A_law_299 : decode m_A_law.2.1 299 = .ok (.iaload, 1) := by decide +kernel
theorem d_A_law_300 : decode m_A_law.2.1 300 = .ok (.invokevirtual 27, 3) := by decide +kernel
theorem d_A_law_303 : decode m_A_law.2.1 303 = .ok (.pop, 1) := by decide +kernel
theorem d_A_law_304 : decode m_A_law.2.1 304 = .ok (.goto 900, 3) := by decide +kernel
theorem d_A_law_307 : decode m_A_law.2.1 307 = .ok (.aload_n 1, 1) := by decide +kernel
theorem d_A_law_308 : decode m_A_law.2.1 308 = .ok (.aload_n 0, 1) := by decide +kernel
theorem d_A_law_309 : decode m_A_law.2.1 309 = .ok (.iload_n 3, 1) := by decide +kernel
theorem d_A_law_310 : decode m_A_law.2.1 310 = .ok (.iconst 1, 1) := by decide +kernel
theorem d_A_law_311 : decode m_A_law.2.1 311 = .ok (.iadd, 1) := by decide +kernel
theorem d_A_law_312 : decode m_A_law.2.1 312 = .ok (.iaload, 1) := by decide +kernel
theorem d_A_law_313 : decode m_A_law.2.1 313 = .ok (.aload_n 0, 1) := by decide +kernel
theorem d_A_law_314 : decode m_A_law.2.1 314 = .ok (.iload_n 3, 1) := by decide +kernel
theorem d_A_law_315 : decode m_A_law.2.1 315 = .ok (.iconst 2, 1) := by decide +kernel
theorem d_A_law_316 : decode m_A_law.2.1 316 = .ok (.iadd, 1) := by decide +kernel
theorem d_A_law_317 : decode m_A_law.2.1 317 = .ok (.iaload, 1) := by decide +kernel
theorem d_A_law_318 : decode m_A_law.2.1 318 = .ok (.invokevirtual 28, 3) := by decide +kernel
theorem d_A_law_321 : decode m_A_law.2.1 321 = .ok (.pop, 1) := by decide +kernel
theorem d_A_law_322 : decode m_A_law.2.1 322 = .ok (.aload_n 2, 1) := by decide +kernel
theorem d_A_law_323 : decode m_A_law.2.1 323 = .ok (.aload_n 0, 1) := by decide +kernel
theorem d_A_law_324 : decode m_A_law.2.1 324 = .ok (.iload_n 3, 1) := by decide +kernel
theorem d_A_law_325 : decode m_A_law.2.1 325 = .ok (.iconst 1, 1) := by decide +kernel
theorem d_A_law_326 : decode m_A_law.2.1 326 = .ok (.iadd, 1) := by decide +kernel
theorem d_A_law_327 : decode m_A_law.2.1 327 = .ok (.iaload, 1) := by decide +kernel
theorem d_A_law_328 : decode m_A_law.2.1 328 = .ok (.aload_n 0, 1) := by decide +kernel
theorem d_A_law_329 : decode m_A_law.2.1 329 = .ok (.iload_n 3, 1) := by decide +kernel
theorem d_A_law_330 : decode m_A_law.2.1 330 = .ok (.iconst 2, 1) := by decide +kernel
theorem d_A_law_331 : decode m_A_law.2.1 331 = .ok (.iadd, 1) := by decide +kernel
theorem d_A_law_332 : decode m_A_law.2.1 332 = .ok (.iaload, 1) := by decide +kernel
theorem d_A_law_333 : decode m_A_law.2.1 333 = .ok (.invokevirtual 31, 3) := by decide +kernel
theorem d_A_law_336 : decode m_A_law.2.1 336 = .ok (.pop, 1) := by decide +kernel
theorem d_A_law_337 : decode m_A_law.2.1 337 = .ok (.goto 867, 3) := by decide +kernel
theorem d_A_law_340 : decode m_A_law.2.1 340 = .ok (.aload_n 1, 1) := by decide +kernel
theorem d_A_law_341 : decode m_A_law.2.1 341 = .ok (.aload_n 0, 1) := by decide +kernel
theorem d_A_law_342 : decode m_A_law.2.1 342 = .ok (.iload_n 3, 1) := by decide +kernel
theorem d_A_law_343 : decode m_A_law.2.1 343 = .ok (.iconst 1, 1) := by decide +kernel
theorem d_A_law_344 : decode m_A_law.2.1 344 = .ok (.iadd, 1) := by decide +kernel
theorem d_A_law_345 : decode m_A_law.2.1 345 = .ok (.iaload, 1) := by decide +kernel
theorem d_A_law_346 : decode m_A_law.2.1 346 = .ok (.invokevirtual 32, 3) := by decide +kernel
theorem d_A_law_349 : decode m_A_law.2.1 349 = .ok (.pop, 1) := by decide +kernel
theorem d_A_law_350 : decode m_A_law.2.1 350 = .ok (.aload_n 2, 1) := by decide +kernel
theorem d_A_law_351 : decode m_A_law.2.1 351 = .ok (.aload_n 0, 1) := by decide +kernel
theorem d_A_law_352 : decode m_A_law.2.1 352 = .ok (.iload_n 3, 1) := by decide +kernel
theorem d_A_law_353 : decode m_A_law.2.1 353 = .ok (.iconst 1, 1) := by decide +kernel
theorem d_A_law_354 : decode m_A_law.2.1 354 = .ok (.iadd, 1) := by decide +kernel
theorem d_A_law_355 : decode m_A_law.2.1 355 = .ok (.iaload, 1) := by decide +kernel
theorem d_A_law_356 : decode m_A_law.2.1 356 = .ok (.invokevirtual 35, 3) := by decide +kernel
theorem d_A_law_359 : decode m_A_law.2.1 359 = .ok (.pop, 1) := by decide +kernel
theorem d_A_law_360 : decode m_A_law.2.1 360 = .ok (.goto 844, 3) := by decide +kernel
theorem d_A_law_363 : decode m_A_law.2.1 363 = .ok (.aload_n 1, 1) := by decide +kernel
theorem d_A_law_364 : decode m_A_law.2.1 364 = .ok (.aload_n 0, 1) := by decide +kernel
theorem d_A_law_365 : decode m_A_law.2.1 365 = .ok (.iload_n 3, 1) := by decide +kernel
theorem d_A_law_366 : decode m_A_law.2.1 366 = .ok (.iconst 1, 1) := by decide +kernel
theorem d_A_law_367 : decode m_A_law.2.1 367 = .ok (.iadd, 1) := by decide +kernel
theorem d_A_law_368 : decode m_A_law.2.1 368 = .ok (.iaload, 1) := by decide +kernel
theorem d_A_law_369 : decode m_A_law.2.1 369 = .ok (.invokevirtual 36, 3) := by decide +kernel
theorem d_A_law_372 : decode m_A_law.2.1 372 = .ok (.pop, 1) := by decide +kernel
theorem d_A_law_373 : decode m_A_law.2.1 373 = .ok (.aload_n 2, 1) := by decide +kernel
theorem d_A_law_374 : decode m_A_law.2.1 374 = .ok (.aload_n 0, 1) := by decide +kernel
theorem d_A_law_375 : decode m_A_law.2.1 375 = .ok (.iload_n 3, 1) := by decide +kernel
theorem d_A_law_376 : decode m_A_law.2.1 376 = .ok (.iconst 1, 1) := by decide +kernel
theorem d_A_law_377 : decode m_A_law.2.1 377 = .ok (.iadd, 1) := by decide +kernel
theorem d_A_law_378 : decode m_A_law.2.1 378 = .ok (.iaload, 1) := by decide +kernel
theorem d_A_law_379 : decode m_A_law.2.1 379 = .ok (.invokevirtual 39, 3) := by decide +kernel
theorem d_A_law_382 : decode m_A_law.2.1 382 = .ok (.pop, 1) := by decide +kernel
theorem d_A_law_383 : decode m_A_law.2.1 383 = .ok (.goto 821, 3) := by decide +kernel
theorem d_A_law_386 : decode m_A_law.2.1 386 = .ok (.aload_n 1, 1) := by decide +kernel
theorem d_A_law_387 : decode m_A_law.2.1 387 = .ok (.aload_n 0, 1) := by decide +kernel
theorem d_A_law_388 : decode m_A_law.2.1 388 = .ok (.iload_n 3, 1) := by decide +kernel
theorem d_A_law_389 : decode m_A_law.2.1 389 = .ok (.iconst 1, 1) := by decide +kernel
theorem d_A_law_390 : decode m_A_law.2.1 390 = .ok (.iadd, 1) := by decide +kernel
theorem d_A_law_391 : decode m_A_law.2.1 391 = .ok (.iaload, 1) := by decide +kernel
theorem d_A_law_392 : decode m_A_law.2.1 392 = .ok (.invokevirtual 40, 3) := by decide +kernel
theorem d_A_law_395 : decode m_A_law.2.1 395 = .ok (.pop, 1) := by decide +kernel
theorem d_A_law_396 : decode m_A_law.2.1 396 = .ok (.aload_n 2, 1) := by decide +kernel
theorem d_A_law_397 : decode m_A_law.2.1 397 = .ok (.aload_n 0, 1) := by decide +kernel
theorem d_A_law_398 : decode m_A_law.2.1 398 = .ok (.iload_n 3, 1) := by decide +kernel
theorem d_A_law_399 : decode m_A_law.2.1 399 = .ok (.iconst 1, 1) := by decide +kernel
theorem d_A_law_400 : decode m_A_law.2.1 400 = .ok (.iadd, 1) := by decide +kernel
theorem d_A_law_401 : decode m_A_law.2.1 401 = .ok (.iaload, 1) := by decide +kernel
theorem d_A_law_402 : decode m_A_law.2.1 402 = .ok (.invokevirtual 44, 3) := by decide +kernel
theorem d_A_law_405 : decode m_A_law.2.1 405 = .ok (.pop, 1) := by decide +kernel
theorem d_A_law_406 : decode m_A_law.2.1 406 = .ok (.goto 798, 3) := by decide +kernel
theorem d_A_law_409 : decode m_A_law.2.1 409 = .ok (.aload_n 1, 1) := by decide +kernel
theorem d_A_law_410 : decode m_A_law.2.1 410 = .ok (.aload_n 0, 1) := by decide +kernel
theorem d_A_law_411 : decode m_A_law.2.1 411 = .ok (.iload_n 3, 1) := by decide +kernel
theorem d_A_law_412 : decode m_A_law.2.1 412 = .ok (.iconst 1, 1) := by decide +kernel
theorem d_A_law_413 : decode m_A_law.2.1 413 = .ok (.iadd, 1) := by decide +kernel
theorem d_A_law_414 : decode m_A_law.2.1 414 = .ok (.iaload, 1) := by decide +kernel
theorem d_A_law_415 : decode m_A_law.2.1 415 = .ok (.aload_n 0, 1) := by decide +kernel
theorem d_A_law_416 : decode m_A_law.2.1 416 = .ok (.iload_n 3, 1) := by decide +kernel
theorem d_A_law_417 : decode m_A_law.2.1 417 = .ok (.iconst 2, 1) := by decide +kernel
theorem d_A_law_418 : decode m_A_law.2.1 418 = .ok (.iadd, 1) := by decide +kernel
theorem d_A_law_419 : decode m_A_law.2.1 419 = .ok (.iaload, 1) := by decide +kernel
theorem d_A_law_420 : decode m_A_law.2.1 420 = .ok (.invokevirtual 45, 3) := by decide +kernel
theorem d_A_law_423 : decode m_A_law.2.1 423 = .ok (.pop, 1) := by decide +kernel
theorem d_A_law_424 : decode m_A_law.2.1 424 = .ok (.aload_n 2, 1) := by decide +kernel
theorem d_A_law_425 : decode m_A_law.2.1 425 = .ok (.aload_n 0, 1) := by decide +kernel
theorem d_A_law_426 : decode m_A_law.2.1 426 = .ok (.iload_n 3, 1) := by decide +kernel
theorem d_A_law_427 : decode m_A_law.2.1 427 = .ok (.iconst 1, 1) := by decide +kernel
theorem d_A_law_428 : decode m_A_law.2.1 428 = .ok (.iadd, 1) := by decide +kernel
theorem d_A_law_429 : decode m_A_law.2.1 429 = .ok (.iaload, 1) := by decide +kernel
theorem d_A_law_430 : decode m_A_law.2.1 430 = .ok (.aload_n 0, 1) := by decide +kernel
theorem d_A_law_431 : decode m_A_law.2.1 431 = .ok (.iload_n 3, 1) := by decide +kernel
theorem d_A_law_432 : decode m_A_law.2.1 432 = .ok (.iconst 2, 1) := by decide +kernel
theorem d_A_law_433 : decode m_A_law.2.1 433 = .ok (.iadd, 1) := by decide +kernel
theorem d_A_law_434 : decode m_A_law.2.1 434 = .ok (.iaload, 1) := by decide +kernel
theorem d_A_law_435 : decode m_A_law.2.1 435 = .ok (.invokevirtual 48, 3) := by decide +kernel
theorem d_A_law_438 : decode m_A_law.2.1 438 = .ok (.pop, 1) := by decide +kernel
theorem d_A_law_439 : decode m_A_law.2.1 439 = .ok (.goto 765, 3) := by decide +kernel
theorem d_A_law_442 : decode m_A_law.2.1 442 = .ok (.aload_n 1, 1) := by decide +kernel
theorem d_A_law_443 : decode m_A_law.2.1 443 = .ok (.aload_n 0, 1) := by decide +kernel
theorem d_A_law_444 : decode m_A_law.2.1 444 = .ok (.iload_n 3, 1) := by decide +kernel
theorem d_A_law_445 : decode m_A_law.2.1 445 = .ok (.iconst 1, 1) := by decide +kernel
theorem d_A_law_446 : decode m_A_law.2.1 446 = .ok (.iadd, 1) := by decide +kernel
theorem d_A_law_447 : decode m_A_law.2.1 447 = .ok (.iaload, 1) := by decide +kernel
theorem d_A_law_448 : decode m_A_law.2.1 448 = .ok (.aload_n 0, 1) := by decide +kernel
theorem d_A_law_449 : decode m_A_law.2.1 449 = .ok (.iload_n 3, 1) := by decide +kernel
theorem d_A_law_450 : decode m_A_law.2.1 450 = .ok (.iconst 2, 1) := by decide +kernel
theorem d_A_law_451 : decode m_A_law.2.1 451 = .ok (.iadd, 1) := by decide +kernel
theorem d_A_law_452 : decode m_A_law.2.1 452 = .ok (.iaload, 1) := by decide +kernel
theorem d_A_law_453 : decode m_A_law.2.1 453 = .ok (.aload_n 0, 1) := by decide +kernel
theorem d_A_law_454 : decode m_A_law.2.1 454 = .ok (.iload_n 3, 1) := by decide +kernel
theorem d_A_law_455 : decode m_A_law.2.1 455 = .ok (.iconst 3, 1) := by decide +kernel
theorem d_A_law_456 : decode m_A_law.2.1 456 = .ok (.iadd, 1) := by decide +kernel
theorem d_A_law_457 : decode m_A_law.2.1 457 = .ok (.iaload, 1) := by decide +kernel
theorem d_A_law_458 : decode m_A_law.2.1 458 = .ok (.aload_n 0, 1) := by decide +kernel
theorem d_A_law_459 : decode m_A_law.2.1 459 = .ok (.iload_n 3, 1) := by decide +kernel
theorem d_A_law_460 : decode m_A_law.2.1 460 = .ok (.iconst 4, 1) := by decide +kernel
theorem d_A_law_461 : decode m_A_law.2.1 461 = .ok (.iadd, 1) := by decide +kernel
theorem d_A_law_462 : decode m_A_law.2.1 462 = .ok (.iaload, 1) := by decide +kernel
theorem d_A_law_463 : decode m_A_law.2.1 463 = .ok (.invokevirtual 49, 3) := by decide +kernel
theorem d_A_law_466 : decode m_A_law.2.1 466 = .ok (.pop, 1) := by decide +kernel
theorem d_A_law_467 : decode m_A_law.2.1 467 = .ok (.aload_n 2, 1) := by decide +kernel
theorem d_A_law_468 : decode m_A_law.2.1 468 = .ok (.aload_n 0, 1) := by decide +kernel
theorem d_A_law_469 : decode m_A_law.2.1 469 = .ok (.iload_n 3, 1) := by decide +kernel
theorem d_A_law_470 : decode m_A_law.2.1 470 = .ok (.iconst 1, 1) := by decide +kernel
theorem d_A_law_471 : decode m_A_law.2.1 471 = .ok (.iadd, 1) := by decide +kernel
theorem d_A_law_472 : decode m_A_law.2.1 472 = .ok (.iaload, 1) := by decide +kernel
theorem d_A_law_473 : decode m_A_law.2.1 473 = .ok (.aload_n 0, 1) := by decide +kernel
theorem d_A_law_474 : decode m_A_law.2.1 474 = .ok (.iload_n 3, 1) := by decide +kernel
theorem d_A_law_475 : decode m_A_law.2.1 475 = .ok (.iconst 2, 1) := by decide +kernel
theorem d_A_law_476 : decode m_A_law.2.1 476 = .ok (.iadd, 1) := by decide +kernel
theorem d_A_law_477 : decode m_A_law.2.1 477 = .ok (.iaload, 1) := by decide +kernel
theorem d_A_law_478 : decode m_A_law.2.1 478 = .ok (.aload_n 0, 1) := by decide +kernel
theorem d_A_law_479 : decode m_A_law.2.1 479 = .ok (.iload_n 3, 1) := by decide +kernel
theorem d_A_law_480 : decode m_A_law.2.1 480 = .ok (.iconst 3, 1) := by decide +kernel
theorem d_A_law_481 : decode m_A_law.2.1 481 = .ok (.iadd, 1) := by decide +kernel
theorem d_A_law_482 : decode m_A_law.2.1 482 = .ok (.iaload, 1) := by decide +kernel
theorem d_A_law_483 : decode m_A_law.2.1 483 = .ok (.aload_n 0, 1) := by decide +kernel
theorem d_A_law_484 : decode m_A_law.2.1 484 = .ok (.iload_n 3, 1) := by decide +kernel
theorem d_A_law_485 : decode m_A_law.2.1 485 = .ok (.iconst 4, 1) := by decide +kernel
theorem d_A_law_486 : decode m_A_law.2.1 486 = .ok (.iadd, 1) := by decide +kernel
theorem d_A_law_487 : decode m_A_law.2.1 487 = .ok (.iaload, 1) := by decide +kernel
theorem d_A_law_488 : decode m_A_law.2.1 488 = .ok (.invokevirtual 53, 3) := by decide +kernel
theorem d_A_law_491 : decode m_A_law.2.1 491 = .ok (.pop, 1) := by decide +kernel
theorem d_A_law_492 : decode m_A_law.2.1 492 = .ok (.goto 712, 3) := by decide +kernel
theorem d_A_law_495 : decode m_A_law.2.1 495 = .ok (.aload_n 1, 1) := by decide +kernel
theorem d_A_law_496 : decode m_A_law.2.1 496 = .ok (.aload_n 0, 1) := by decide +kernel
theorem d_A_law_497 : decode m_A_law.2.1 497 = .ok (.iload_n 3, 1) := by decide +kernel
theorem d_A_law_498 : decode m_A_law.2.1 498 = .ok (.iconst 1, 1) := by decide +kernel
theorem d_A_law_499 : decode m_A_law.2.1 499 = .ok (.iadd, 1) := by decide +kernel
theorem d_A_law_500 : decode m_A_law.2.1 500 = .ok (.iaload, 1) := by decide +kernel
theorem d_A_law_501 : decode m_A_law.2.1 501 = .ok (.aload_n 0, 1) := by decide +kernel
theorem d_A_law_502 : decode m_A_law.2.1 502 = .ok (.iload_n 3, 1) := by decide +kernel
theorem d_A_law_503 : decode m_A_law.2.1 503 = .ok (.iconst 2, 1) := by decide +kernel
theorem d_A_law_504 : decode m_A_law.2.1 504 = .ok (.iadd, 1) := by decide +kernel
theorem d_A_law_505 : decode m_A_law.2.1 505 = .ok (.iaload, 1) := by decide +kernel
theorem d_A_law_506 : decode m_A_law.2.1 506 = .ok (.invokevirtual 54, 3) := by decide +kernel
theorem d_A_law_509 : decode m_A_law.2.1 509 = .ok (.pop, 1) := by decide +kernel
theorem d_A_law_510 : decode m_A_law.2.1 510 = .ok (.aload_n 2, 1) := by decide +kernel
theorem d_A_law_511 : decode m_A_law.2.1 511 = .ok (.aload_n 0, 1) := by decide +kernel
theorem d_A_law_512 : decode m_A_law.2.1 512 = .ok (.iload_n 3, 1) := by decide +kernel
theorem d_A_law_513 : decode m_A_law.2.1 513 = .ok (.iconst 1, 1) := by decide +kernel
theorem d_A_law_514 : decode m_A_law.2.1 514 = .ok (.iadd, 1) := by decide +kernel
theorem d_A_law_515 : decode m_A_law.2.1 515 = .ok (.iaload, 1) := by decide +kernel
theorem d_A_law_516 : decode m_A_law.2.1 516 = .ok (.aload_n 0, 1) := by decide +kernel
theorem d_A_law_517 : decode m_A_law.2.1 517 = .ok (.iload_n 3, 1) := by decide +kernel
theorem d_A_law_518 : decode m_A_law.2.1 518 = .ok (.iconst 2, 1) := by decide +kernel
theorem d_A_law_519 : decode m_A_law.2.1 519 = .ok (.iadd, 1) := by decide +kernel
theorem d_A_law_520 : decode m_A_law.2.1 520 = .ok (.iaload, 1) := by decide +kernel
theorem d_A_law_521 : decode m_A_law.2.1 521 = .ok (.invokevirtual 57, 3) := by decide +kernel
theorem d_A_law_524 : decode m_A_law.2.1 524 = .ok (.pop, 1) := by decide +kernel
theorem d_A_law_525 : decode m_A_law.2.1 525 = .ok (.goto 679, 3) := by decide +kernel
theorem d_A_law_528 : decode m_A_law.2.1 528 = .ok (.aload_n 1, 1) := by decide +kernel
theorem d_A_law_529 : decode m_A_law.2.1 529 = .ok (.aload_n 0, 1) := by decide +kernel
theorem d_A_law_530 : decode m_A_law.2.1 530 = .ok (.iload_n 3, 1) := by decide +kernel
theorem d_A_law_531 : decode m_A_law.2.1 531 = .ok (.iconst 1, 1) := by decide +kernel
theorem d_A_law_532 : decode m_A_law.2.1 532 = .ok (.iadd, 1) := by decide +kernel
theorem d_A_law_533 : decode m_A_law.2.1 533 = .ok (.iaload, 1) := by decide +kernel
theorem d_A_law_534 : decode m_A_law.2.1 534 = .ok (.aload_n 0, 1) := by decide +kernel
theorem d_A_law_535 : decode m_A_law.2.1 535 = .ok (.iload_n 3, 1) := by decide +kernel
theorem d_A_law_536 : decode m_A_law.2.1 536 = .ok (.iconst 2, 1) := by decide +kernel
theorem d_A_law_537 : decode m_A_law.2.1 537 = .ok (.iadd, 1) := by decide +kernel
theorem d_A_law_538 : decode m_A_law.2.1 538 = .ok (.iaload, 1) := by decide +kernel
theorem d_A_law_539 : decode m_A_law.2.1 539 = .ok (.invokevirtual 58, 3) := by decide +kernel
theorem d_A_law_542 : decode m_A_law.2.1 542 = .ok (.pop, 1) := by decide +kernel
theorem d_A_law_543 : decode m_A_law.2.1 543 = .ok (.aload_n 2, 1) := by decide +kernel
theorem d_A_law_544 : decode m_A_law.2.1 544 = .ok (.aload_n 0, 1) := by decide +kernel
theorem d_A_law_545 : decode m_A_law.2.1 545 = .ok (.iload_n 3, 1) := by decide +kernel
theorem d_A_law_546 : decode m_A_law.2.1 546 = .ok (.iconst 1, 1) := by decide +kernel
theorem d_A_law_547 : decode m_A_law.2.1 547 = .ok (.iadd, 1) := by decide +kernel
theorem d_A_law_548 : decode m_A_law.2.1 548 = .ok (.iaload, 1) := by decide +kernel
theorem d_A_law_549 : decode m_A_law.2.1 549 = .ok (.aload_n 0, 1) := by decide +kernel
theorem d_A_law_550 : decode m_A_law.2.1 550 = .ok (.iload_n 3, 1) := by decide +kernel
theorem d_A_law_551 : decode m_A_law.2.1 551 = .ok (.iconst 2, 1) := by decide +kernel
theorem d_A_law_552 : decode m_A_law.2.1 552 = .ok (.iadd, 1) := by decide +kernel
theorem d_A_law_553 : decode m_A_law.2.1 553 = .ok (.iaload, 1) := by decide +kernel
theorem d_A_law_554 : decode m_A_law.2.1 554 = .ok (.invokevirtual 61, 3) := by decide +kernel
theorem d_A_law_557 : decode m_A_law.2.1 557 = .ok (.pop, 1) := by decide +kernel
theorem d_A_law_558 : decode m_A_law.2.1 558 = .ok (.goto 646, 3) := by decide +kernel
theorem d_A_law_561 : decode m_A_law.2.1 561 = .ok (.aload_n 1, 1) := by decide +kernel
theorem d_A_law_562 : decode m_A_law.2.1 562 = .ok (.aload_n 0, 1) := by decide +kernel
theorem d_A_law_563 : decode m_A_law.2.1 563 = .ok (.iload_n 3, 1) := by decide +kernel
theorem d_A_law_564 : decode m_A_law.2.1 564 = .ok (.iconst 1, 1) := by decide +kernel
theorem d_A_law_565 : decode m_A_law.2.1 565 = .ok (.iadd, 1) := by decide +kernel
theorem d_A_law_566 : decode m_A_law.2.1 566 = .ok (.iaload, 1) := by decide +kernel
theorem d_A_law_567 : decode m_A_law.2.1 567 = .ok (.aload_n 0, 1) := by decide +kernel
theorem d_A_law_568 : decode m_A_law.2.1 568 = .ok (.iload_n 3, 1) := by decide +kernel
theorem d_A_law_569 : decode m_A_law.2.1 569 = .ok (.iconst 2, 1) := by decide +kernel
theorem d_A_law_570 : decode m_A_law.2.1 570 = .ok (.iadd, 1) := by decide +kernel
theorem d_A_law_571 : decode m_A_law.2.1 571 = .ok (.iaload, 1) := by decide +kernel
theorem d_A_law_572 : decode m_A_law.2.1 572 = .ok (.invokevirtual 62, 3) := by decide +kernel
theorem d_A_law_575 : decode m_A_law.2.1 575 = .ok (.pop, 1) := by decide +kernel
theorem d_A_law_576 : decode m_A_law.2.1 576 = .ok (.aload_n 2, 1) := by decide +kernel
theorem d_A_law_577 : decode m_A_law.2.1 577 = .ok (.aload_n 0, 1) := by decide +kernel
theorem d_A_law_578 : decode m_A_law.2.1 578 = .ok (.iload_n 3, 1) := by decide +kernel
theorem d_A_law_579 : decode m_A_law.2.1 579 = .ok (.iconst 1, 1) := by decide +kernel
theorem d_A_law_580 : decode m_A_law.2.1 580 = .ok (.iadd, 1) := by decide +kernel
theorem d_A_law_581 : decode m_A_law.2.1 581 = .ok (.iaload, 1) := by decide +kernel
theorem d_A_law_582 : decode m_A_law.2.1 582 = .ok (.aload_n 0, 1) := by decide +kernel
theorem d_A_law_583 : decode m_A_law.2.1 583 = .ok (.iload_n 3, 1) := by decide +kernel
theorem d_A_law_584 : decode m_A_law.2.1 584 = .ok (.iconst 2, 1) := by decide +kernel
theorem d_A_law_585 : decode m_A_law.2.1 585 = .ok (.iadd, 1) := by decide +kernel
theorem d_A_law_586 : decode m_A_law.2.1 586 = .ok (.iaload, 1) := by decide +kernel
theorem d_A_law_587 : decode m_A_law.2.1 587 = .ok (.invokevirtual 65, 3) := by decide +kernel
theorem d_A_law_590 : decode m_A_law.2.1 590 = .ok (.pop, 1) := by decide +kernel
theorem d_A_law_591 : decode m_A_law.2.1 591 = .ok (.goto 613, 3) := by decide +kernel
theorem d_A_law_594 : decode m_A_law.2.1 594 = .ok (.aload_n 1, 1) := by decide +kernel
theorem d_A_law_595 : decode m_A_law.2.1 595 = .ok (.aload_n 0, 1) := by decide +kernel
theorem d_A_law_596 : decode m_A_law.2.1 596 = .ok (.iload_n 3, 1) := by decide +kernel
theorem d_A_law_597 : decode m_A_law.2.1 597 = .ok (.iconst 1, 1) := by decide +kernel
theorem d_A_law_598 : decode m_A_law.2.1 598 = .ok (.iadd, 1) := by decide +kernel
theorem d_A_law_599 : decode m_A_law.2.1 599 = .ok (.iaload, 1) := by decide +kernel
theorem d_A_law_600 : decode m_A_law.2.1 600 = .ok (.aload_n 0, 1) := by decide +kernel
theorem d_A_law_601 : decode m_A_law.2.1 601 = .ok (.iload_n 3, 1) := by decide +kernel
theorem d_A_law_602 : decode m_A_law.2.1 602 = .ok (.iconst 2, 1) := by decide +kernel
theorem d_A_law_603 : decode m_A_law.2.1 603 = .ok (.iadd, 1) := by decide +kernel
theorem d_A_law_604 : decode m_A_law.2.1 604 = .ok (.iaload, 1) := by decide +kernel
theorem d_A_law_605 : decode m_A_law.2.1 605 = .ok (.aload_n 0, 1) := by decide +kernel
theorem d_A_law_606 : decode m_A_law.2.1 606 = .ok (.iload_n 3, 1) := by decide +kernel
theorem d_A_law_607 : decode m_A_law.2.1 607 = .ok (.iconst 3, 1) := by decide +kernel
theorem d_A_law_608 : decode m_A_law.2.1 608 = .ok (.iadd, 1) := by decide +kernel
theorem d_A_law_609 : decode m_A_law.2.1 609 = .ok (.iaload, 1) := by decide +kernel
theorem d_A_law_610 : decode m_A_law.2.1 610 = .ok (.invokevirtual 66, 3) := by decide +kernel
theorem d_A_law_613 : decode m_A_law.2.1 613 = .ok (.pop, 1) := by decide +kernel
theorem d_A_law_614 : decode m_A_law.2.1 614 = .ok (.aload_n 2, 1) := by decide +kernel
theorem d_A_law_615 : decode m_A_law.2.1 615 = .ok (.aload_n 0, 1) := by decide +kernel
theorem d_A_law_616 : decode m_A_law.2.1 616 = .ok (.iload_n 3, 1) := by decide +kernel
theorem d_A_law_617 : decode m_A_law.2.1 617 = .ok (.iconst 1, 1) := by decide +kernel
theorem d_A_law_618 : decode m_A_law.2.1 618 = .ok (.iadd, 1) := by decide +kernel
theorem d_A_law_619 : decode m_A_law.2.1 619 = .ok (.iaload, 1) := by decide +kernel
theorem d_A_law_620 : decode m_A_law.2.1 620 = .ok (.aload_n 0, 1) := by decide +kernel
theorem d_A_law_621 : decode m_A_law.2.1 621 = .ok (.iload_n 3, 1) := by decide +kernel
theorem d_A_law_622 : decode m_A_law.2.1 622 = .ok (.iconst 2, 1) := by decide +kernel
theorem d_A_law_623 : decode m_A_law.2.1 623 = .ok (.iadd, 1) := by decide +kernel
theorem d_A_law_624 : decode m_A_law.2.1 624 = .ok (.iaload, 1) := by decide +kernel
theorem d_A_law_625 : decode m_A_law.2.1 625 = .ok (.aload_n 0, 1) := by decide +kernel
theorem d_A_law_626 : decode m_A_law.2.1 626 = .ok (.iload_n 3, 1) := by decide +kernel
theorem d_A_law_627 : decode m_A_law.2.1 627 = .ok (.iconst 3, 1) := by decide +kernel
theorem d_A_law_628 : decode m_A_law.2.1 628 = .ok (.iadd, 1) := by decide +kernel
theorem d_A_law_629 : decode m_A_law.2.1 629 = .ok (.iaload, 1) := by decide +kernel
theorem d_A_law_630 : decode m_A_law.2.1 630 = .ok (.invokevirtual 70, 3) := by decide +kernel
theorem d_A_law_633 : decode m_A_law.2.1 633 = .ok (.pop, 1) := by decide +kernel
theorem d_A_law_634 : decode m_A_law.2.1 634 = .ok (.goto 570, 3) := by decide +kernel
theorem d_A_law_637 : decode m_A_law.2.1 637 = .ok (.aload_n 1, 1) := by decide +kernel
theorem d_A_law_638 : decode m_A_law.2.1 638 = .ok (.aload_n 0, 1) := by decide +kernel
theorem d_A_law_639 : decode m_A_law.2.1 639 = .ok (.iload_n 3, 1) := by decide +kernel
theorem d_A_law_640 : decode m_A_law.2.1 640 = .ok (.iconst 1, 1) := by decide +kernel
theorem d_A_law_641 : decode m_A_law.2.1 641 = .ok (.iadd, 1) := by decide +kernel
theorem d_A_law_642 : decode m_A_law.2.1 642 = .ok (.iaload, 1) := by decide +kernel
theorem d_A_law_643 : decode m_A_law.2.1 643 = .ok (.aload_n 0, 1) := by decide +kernel
theorem d_A_law_644 : decode m_A_law.2.1 644 = .ok (.iload_n 3, 1) := by decide +kernel
theorem d_A_law_645 : decode m_A_law.2.1 645 = .ok (.iconst 2, 1) := by decide +kernel
theorem d_A_law_646 : decode m_A_law.2.1 646 = .ok (.iadd, 1) := by decide +kernel
theorem d_A_law_647 : decode m_A_law.2.1 647 = .ok (.iaload, 1) := by decide +kernel
theorem d_A_law_648 : decode m_A_law.2.1 648 = .ok (.invokevirtual 71, 3) := by decide +kernel
theorem d_A_law_651 : decode m_A_law.2.1 651 = .ok (.pop, 1) := by decide +kernel
theorem d_A_law_652 : decode m_A_law.2.1 652 = .ok (.aload_n 2, 1) := by decide +kernel
theorem d_A_law_653 : decode m_A_law.2.1 653 = .ok (.aload_n 0, 1) := by decide +kernel
theorem d_A_law_654 : decode m_A_law.2.1 654 = .ok (.iload_n 3, 1) := by decide +kernel
theorem d_A_law_655 : decode m_A_law.2.1 655 = .ok (.iconst 1, 1) := by decide +kernel
theorem d_A_law_656 : decode m_A_law.2.1 656 = .ok (.iadd, 1) := by decide +kernel
theorem d_A_law_657 : decode m_A_law.2.1 657 = .ok (.iaload, 1) := by decide +kernel
theorem d_A_law_658 : decode m_A_law.2.1 658 = .ok (.aload_n 0, 1) := by decide +kernel
theorem d_A_law_659 : decode m_A_law.2.1 659 = .ok (.iload_n 3, 1) := by decide +kernel
theorem d_A_law_660 : decode m_A_law.2.1 660 = .ok (.iconst 2, 1) := by decide +kernel
theorem d_A_law_661 : decode m_A_law.2.1 661 = .ok (.iadd, 1) := by decide +kernel
theorem d_A_law_662 : decode m_A_law.2.1 662 = .ok (.iaload, 1) := by decide +kernel
theorem d_A_law_663 : decode m_A_law.2.1 663 = .ok (.invokevirtual 74, 3) := by decide +kernel
theorem d_A_law_666 : decode m_A_law.2.1 666 = .ok (.pop, 1) := by decide +kernel
theorem d_A_law_667 : decode m_A_law.2.1 667 = .ok (.goto 537, 3) := by decide +kernel
theorem d_A_law_670 : decode m_A_law.2.1 670 = .ok (.aload_n 1, 1) := by decide +kernel
theorem d_A_law_671 : decode m_A_law.2.1 671 = .ok (.aload_n 0, 1) := by decide +kernel
theorem d_A_law_672 : decode m_A_law.2.1 672 = .ok (.iload_n 3, 1) := by decide +kernel
theorem d_A_law_673 : decode m_A_law.2.1 673 = .ok (.iconst 1, 1) := by decide +kernel
theorem d_A_law_674 : decode m_A_law.2.1 674 = .ok (.iadd, 1) := by decide +kernel
theorem d_A_law_675 : decode m_A_law.2.1 675 = .ok (.iaload, 1) := by decide +kernel
theorem d_A_law_676 : decode m_A_law.2.1 676 = .ok (.aload_n 0, 1) := by decide +kernel
theorem d_A_law_677 : decode m_A_law.2.1 677 = .ok (.iload_n 3, 1) := by decide +kernel
theorem d_A_law_678 : decode m_A_law.2.1 678 = .ok (.iconst 2, 1) := by decide +kernel
theorem d_A_law_679 : decode m_A_law.2.1 679 = .ok (.iadd, 1) := by decide +kernel
theorem d_A_law_680 : decode m_A_law.2.1 680 = .ok (.iaload, 1) := by decide +kernel
theorem d_A_law_681 : decode m_A_law.2.1 681 = .ok (.invokevirtual 75, 3) := by decide +kernel
theorem d_A_law_684 : decode m_A_law.2.1 684 = .ok (.pop, 1) := by decide +kernel
theorem d_A_law_685 : decode m_A_law.2.1 685 = .ok (.aload_n 2, 1) := by decide +kernel
theorem d_A_law_686 : decode m_A_law.2.1 686 = .ok (.aload_n 0, 1) := by decide +kernel
theorem d_A_law_687 : decode m_A_law.2.1 687 = .ok (.iload_n 3, 1) := by decide +kernel
theorem d_A_law_688 : decode m_A_law.2.1 688 = .ok (.iconst 1, 1) := by decide +kernel
theorem d_A_law_689 : decode m_A_law.2.1 689 = .ok (.iadd, 1) := by decide +kernel
theorem d_A_law_690 : decode m_A_law.2.1 690 = .ok (.iaload, 1) := by decide +kernel
theorem d_A_law_691 : decode m_A_law.2.1 691 = .ok (.aload_n 0, 1) := by decide +kernel
theorem d_A_law_692 : decode m_A_law.2.1 692 = .ok (.iload_n 3, 1) := by decide +kernel
theorem d_A_law_693 : decode m_A_law.2.1 693 = .ok (.iconst 2, 1) := by decide +kernel
theorem d_A_law_694 : decode m_A_law.2.1 694 = .ok (.iadd, 1) := by decide +kernel
theorem d_A_law_695 : decode m_A_law.2.1 695 = .ok (.iaload, 1) := by decide +kernel
theorem d_A_law_696 : decode m_A_law.2.1 696 = .ok (.invokevirtual 78, 3) := by decide +kernel
theorem d_A_law_699 : decode m_A_law.2.1 699 = .ok (.pop, 1) := by decide +kernel
theorem d_A_law_700 : decode m_A_law.2.1 700 = .ok (.goto 504, 3) := by decide +kernel
theorem d_A_law_703 : decode m_A_law.2.1 703 = .ok (.aload_n 1, 1) := by decide +kernel
theorem d_A_law_704 : decode m_A_law.2.1 704 = .ok (.aload_n 0, 1) := by decide +kernel
theorem d_A_law_705 : decode m_A_law.2.1 705 = .ok (.iload_n 3, 1) := by decide +kernel
theorem d_A_law_706 : decode m_A_law.2.1 706 = .ok (.iconst 1, 1) := by decide +kernel
theorem d_A_law_707 : decode m_A_law.2.1 707 = .ok (.iadd, 1) := by decide +kernel
theorem d_A_law_708 : decode m_A_law.2.1 708 = .ok (.iaload, 1) := by decide +kernel
theorem d_A_law_709 : decode m_A_law.2.1 709 = .ok (.aload_n 0, 1) := by decide +kernel
theorem d_A_law_710 : decode m_A_law.2.1 710 = .ok (.iload_n 3, 1) := by decide +kernel
theorem d_A_law_711 : decode m_A_law.2.1 711 = .ok (.iconst 2, 1) := by decide +kernel
theorem d_A_law_712 : decode m_A_law.2.1 712 = .ok (.iadd, 1) := by decide +kernel
theorem d_A_law_713 : decode m_A_law.2.1 713 = .ok (.iaload, 1) := by decide +kernel
theorem d_A_law_714 : decode m_A_law.2.1 714 = .ok (.invokevirtual 79, 3) := by decide +kernel
theorem d_A_law_717 : decode m_A_law.2.1 717 = .ok (.pop, 1) := by decide +kernel
theorem d_A_law_718 : decode m_A_law.2.1 718 = .ok (.aload_n 2, 1) := by decide +kernel
theorem d_A_law_719 : decode m_A_law.2.1 719 = .ok (.aload_n 0, 1) := by decide +kernel
theorem d_A_law_720 : decode m_A_law.2.1 720 = .ok (.iload_n 3, 1) := by decide +kernel
theorem d_A_law_721 : decode m_A_law.2.1 721 = .ok (.iconst 1, 1) := by decide +kernel
theorem d_A_law_722 : decode m_A_law.2.1 722 = .ok (.iadd, 1) := by decide +kernel
theorem d_A_law_723 : decode m_A_law.2.1 723 = .ok (.iaload, 1) := by decide +kernel
theorem d_A_law_724 : decode m_A_law.2.1 724 = .ok (.aload_n 0, 1) := by decide +kernel
theorem d_A_law_725 : decode m_A_law.2.1 725 = .ok (.iload_n 3, 1) := by decide +kernel
theorem d_A_law_726 : decode m_A_law.2.1 726 = .ok (.iconst 2, 1) := by decide +kernel
theorem d_A_law_727 : decode m_A_law.2.1 727 = .ok (.iadd, 1) := by decide +kernel
theorem d_A_law_728 : decode m_A_law.2.1 728 = .ok (.iaload, 1) := by decide +kernel
theorem d_A_law_729 : decode m_A_law.2.1 729 = .ok (.invokevirtual 82, 3) := by decide +kernel
theorem d_A_law_732 : decode m_A_law.2.1 732 = .ok (.pop, 1) := by decide +kernel
theorem d_A_law_733 : decode m_A_law.2.1 733 = .ok (.goto 471, 3) := by decide +kernel
theorem d_A_law_736 : decode m_A_law.2.1 736 = .ok (.aload_n 1, 1) := by decide +kernel
theorem d_A_law_737 : decode m_A_law.2.1 737 = .ok (.aload_n 0, 1) := by decide +kernel
theorem d_A_law_738 : decode m_A_law.2.1 738 = .ok (.iload_n 3, 1) := by decide +kernel
theorem d_A_law_739 : decode m_A_law.2.1 739 = .ok (.iconst 1, 1) := by decide +kernel
theorem d_A_law_740 : decode m_A_law.2.1 740 = .ok (.iadd, 1) := by decide +kernel
theorem d_A_law_741 : decode m_A_law.2.1 741 = .ok (.iaload, 1) := by decide +kernel
theorem d_A_law_742 : decode m_A_law.2.1 742 = .ok (.aload_n 0, 1) := by decide +kernel
theorem d_A_law_743 : decode m_A_law.2.1 743 = .ok (.iload_n 3, 1) := by decide +kernel
theorem d_A_law_744 : decode m_A_law.2.1 744 = .ok (.iconst 2, 1) := by decide +kernel
theorem d_A_law_745 : decode m_A_law.2.1 745 = .ok (.iadd, 1) := by decide +kernel
theorem d_A_law_746 : decode m_A_law.2.1 746 = .ok (.iaload, 1) := by decide +kernel
theorem d_A_law_747 : decode m_A_law.2.1 747 = .ok (.invokevirtual 83, 3) := by decide +kernel
theorem d_A_law_750 : decode m_A_law.2.1 750 = .ok (.pop, 1) := by decide +kernel
theorem d_A_law_751 : decode m_A_law.2.1 751 = .ok (.aload_n 2, 1) := by decide +kernel
theorem d_A_law_752 : decode m_A_law.2.1 752 = .ok (.aload_n 0, 1) := by decide +kernel
theorem d_A_law_753 : decode m_A_law.2.1 753 = .ok (.iload_n 3, 1) := by decide +kernel
theorem d_A_law_754 : decode m_A_law.2.1 754 = .ok (.iconst 1, 1) := by decide +kernel
theorem d_A_law_755 : decode m_A_law.2.1 755 = .ok (.iadd, 1) := by decide +kernel
theorem d_A_law_756 : decode m_A_law.2.1 756 = .ok (.iaload, 1) := by decide +kernel
theorem d_A_law_757 : decode m_A_law.2.1 757 = .ok (.aload_n 0, 1) := by decide +kernel
theorem d_A_law_758 : decode m_A_law.2.1 758 = .ok (.iload_n 3, 1) := by decide +kernel
theorem d_A_law_759 : decode m_A_law.2.1 759 = .ok (.iconst 2, 1) := by decide +kernel
theorem d_A_law_760 : decode m_A_law.2.1 760 = .ok (.iadd, 1) := by decide +kernel
theorem d_A_law_761 : decode m_A_law.2.1 761 = .ok (.iaload, 1) := by decide +kernel
theorem d_A_law_762 : decode m_A_law.2.1 762 = .ok (.invokevirtual 86, 3) := by decide +kernel
theorem d_A_law_765 : decode m_A_law.2.1 765 = .ok (.pop, 1) := by decide +kernel
theorem d_A_law_766 : decode m_A_law.2.1 766 = .ok (.goto 438, 3) := by decide +kernel
theorem d_A_law_769 : decode m_A_law.2.1 769 = .ok (.aload_n 1, 1) := by decide +kernel
theorem d_A_law_770 : decode m_A_law.2.1 770 = .ok (.aload_n 0, 1) := by decide +kernel
theorem d_A_law_771 : decode m_A_law.2.1 771 = .ok (.iload_n 3, 1) := by decide +kernel
theorem d_A_law_772 : decode m_A_law.2.1 772 = .ok (.iconst 1, 1) := by decide +kernel
theorem d_A_law_773 : decode m_A_law.2.1 773 = .ok (.iadd, 1) := by decide +kernel
theorem d_A_law_774 : decode m_A_law.2.1 774 = .ok (.iaload, 1) := by decide +kernel
theorem d_A_law_775 : decode m_A_law.2.1 775 = .ok (.aload_n 0, 1) := by decide +kernel
theorem d_A_law_776 : decode m_A_law.2.1 776 = .ok (.iload_n 3, 1) := by decide +kernel
theorem d_A_law_777 : decode m_A_law.2.1 777 = .ok (.iconst 2, 1) := by decide +kernel
theorem d_A_law_778 : decode m_A_law.2.1 778 = .ok (.iadd, 1) := by decide +kernel
theorem d_A_law_779 : decode m_A_law.2.1 779 = .ok (.iaload, 1) := by decide +kernel
theorem d_A_law_780 : decode m_A_law.2.1 780 = .ok (.invokevirtual 87, 3) := by decide +kernel
theorem d_A_law_783 : decode m_A_law.2.1 783 = .ok (.pop, 1) := by decide +kernel
theorem d_A_law_784 : decode m_A_law.2.1 784 = .ok (.aload_n 2, 1) := by decide +kernel
theorem d_A_law_785 : decode m_A_law.2.1 785 = .ok (.aload_n 0, 1) := by decide +kernel
theorem d_A_law_786 : decode m_A_law.2.1 786 = .ok (.iload_n 3, 1) := by decide +kernel
theorem d_A_law_787 : decode m_A_law.2.1 787 = .ok (.iconst 1, 1) := by decide +kernel
theorem d_A_law_788 : decode m_A_law.2.1 788 = .ok (.iadd, 1) := by decide +kernel
theorem d_A_law_789 : decode m_A_law.2.1 789 = .ok (.iaload, 1) := by decide +kernel
theorem d_A_law_790 : decode m_A_law.2.1 790 = .ok (.aload_n 0, 1) := by decide +kernel
theorem d_A_law_791 : decode m_A_law.2.1 791 = .ok (.iload_n 3, 1) := by decide +kernel
theorem d_A_law_792 : decode m_A_law.2.1 792 = .ok (.iconst 2, 1) := by decide +kernel
theorem d_A_law_793 : decode m_A_law.2.1 793 = .ok (.iadd, 1) := by decide +kernel
theorem d_A_law_794 : decode m_A_law.2.1 794 = .ok (.iaload, 1) := by decide +kernel
theorem d_A_law_795 : decode m_A_law.2.1 795 = .ok (.invokevirtual 90, 3) := by decide +kernel
theorem d_A_law_798 : decode m_A_law.2.1 798 = .ok (.pop, 1) := by decide +kernel
theorem d_A_law_799 : decode m_A_law.2.1 799 = .ok (.goto 405, 3) := by decide +kernel
theorem d_A_law_802 : decode m_A_law.2.1 802 = .ok (.aload_n 1, 1) := by decide +kernel
theorem d_A_law_803 : decode m_A_law.2.1 803 = .ok (.aload_n 0, 1) := by decide +kernel
theorem d_A_law_804 : decode m_A_law.2.1 804 = .ok (.iload_n 3, 1) := by decide +kernel
theorem d_A_law_805 : decode m_A_law.2.1 805 = .ok (.iconst 1, 1) := by decide +kernel
theorem d_A_law_806 : decode m_A_law.2.1 806 = .ok (.iadd, 1) := by decide +kernel
theorem d_A_law_807 : decode m_A_law.2.1 807 = .ok (.iaload, 1) := by decide +kernel
theorem d_A_law_808 : decode m_A_law.2.1 808 = .ok (.aload_n 0, 1) := by decide +kernel
theorem d_A_law_809 : decode m_A_law.2.1 809 = .ok (.iload_n 3, 1) := by decide +kernel
theorem d_A_law_810 : decode m_A_law.2.1 810 = .ok (.iconst 2, 1) := by decide +kernel
theorem d_A_law_811 : decode m_A_law.2.1 811 = .ok (.iadd, 1) := by decide +kernel
theorem d_A_law_812 : decode m_A_law.2.1 812 = .ok (.iaload, 1) := by decide +kernel
theorem d_A_law_813 : decode m_A_law.2.1 813 = .ok (.invokevirtual 91, 3) := by decide +kernel
theorem d_A_law_816 : decode m_A_law.2.1 816 = .ok (.pop, 1) := by decide +kernel
theorem d_A_law_817 : decode m_A_law.2.1 817 = .ok (.aload_n 2, 1) := by decide +kernel
theorem d_A_law_818 : decode m_A_law.2.1 818 = .ok (.aload_n 0, 1) := by decide +kernel
theorem d_A_law_819 : decode m_A_law.2.1 819 = .ok (.iload_n 3, 1) := by decide +kernel
theorem d_A_law_820 : decode m_A_law.2.1 820 = .ok (.iconst 1, 1) := by decide +kernel
theorem d_A_law_821 : decode m_A_law.2.1 821 = .ok (.iadd, 1) := by decide +kernel
theorem d_A_law_822 : decode m_A_law.2.1 822 = .ok (.iaload, 1) := by decide +kernel
theorem d_A_law_823 : decode m_A_law.2.1 823 = .ok (.aload_n 0, 1) := by decide +kernel
theorem d_A_law_824 : decode m_A_law.2.1 824 = .ok (.iload_n 3, 1) := by decide +kernel
theorem d_A_law_825 : decode m_A_law.2.1 825 = .ok (.iconst 2, 1) := by decide +kernel
theorem d_A_law_826 : decode m_A_law.2.1 826 = .ok (.iadd, 1) := by decide +kernel
theorem d_A_law_827 : decode m_A_law.2.1 827 = .ok (.iaload, 1) := by decide +kernel
theorem d_A_law_828 : decode m_A_law.2.1 828 = .ok (.invokevirtual 94, 3) := by decide +kernel
theorem d_A_law_831 : decode m_A_law.2.1 831 = .ok (.pop, 1) := by decide +kernel
theorem d_A_law_832 : decode m_A_law.2.1 832 = .ok (.goto 372, 3) := by decide +kernel
theorem d_A_law_835 : decode m_A_law.2.1 835 = .ok (.aload_n 1, 1) := by decide +kernel
theorem d_A_law_836 : decode m_A_law.2.1 836 = .ok (.aload_n 0, 1) := by decide +kernel
theorem d_A_law_837 : decode m_A_law.2.1 837 = .ok (.iload_n 3, 1) := by decide +kernel
theorem d_A_law_838 : decode m_A_law.2.1 838 = .ok (.iconst 1, 1) := by decide +kernel
theorem d_A_law_839 : decode m_A_law.2.1 839 = .ok (.iadd, 1) := by decide +kernel
theorem d_A_law_840 : decode m_A_law.2.1 840 = .ok (.iaload, 1) := by decide +kernel
theorem d_A_law_841 : decode m_A_law.2.1 841 = .ok (.aload_n 0, 1) := by decide +kernel
theorem d_A_law_842 : decode m_A_law.2.1 842 = .ok (.iload_n 3, 1) := by decide +kernel
theorem d_A_law_843 : decode m_A_law.2.1 843 = .ok (.iconst 2, 1) := by decide +kernel
theorem d_A_law_844 : decode m_A_law.2.1 844 = .ok (.iadd, 1) := by decide +kernel
theorem d_A_law_845 : decode m_A_law.2.1 845 = .ok (.iaload, 1) := by decide +kernel
theorem d_A_law_846 : decode m_A_law.2.1 846 = .ok (.invokevirtual 95, 3) := by decide +kernel
theorem d_A_law_849 : decode m_A_law.2.1 849 = .ok (.pop, 1) := by decide +kernel
theorem d_A_law_850 : decode m_A_law.2.1 850 = .ok (.aload_n 2, 1) := by decide +kernel
theorem d_A_law_851 : decode m_A_law.2.1 851 = .ok (.aload_n 0, 1) := by decide +kernel
theorem d_A_law_852 : decode m_A_law.2.1 852 = .ok (.iload_n 3, 1) := by decide +kernel
theorem d_A_law_853 : decode m_A_law.2.1 853 = .ok (.iconst 1, 1) := by decide +kernel
theorem d_A_law_854 : decode m_A_law.2.1 854 = .ok (.iadd, 1) := by decide +kernel
theorem d_A_law_855 : decode m_A_law.2.1 855 = .ok (.iaload, 1) := by decide +kernel
theorem d_A_law_856 : decode m_A_law.2.1 856 = .ok (.aload_n 0, 1) := by decide +kernel
theorem d_A_law_857 : decode m_A_law.2.1 857 = .ok (.iload_n 3, 1) := by decide +kernel
theorem d_A_law_858 : decode m_A_law.2.1 858 = .ok (.iconst 2, 1) := by decide +kernel
theorem d_A_law_859 : decode m_A_law.2.1 859 = .ok (.iadd, 1) := by decide +kernel
theorem d_A_law_860 : decode m_A_law.2.1 860 = .ok (.iaload, 1) := by decide +kernel
theorem d_A_law_861 : decode m_A_law.2.1 861 = .ok (.invokevirtual 98, 3) := by decide +kernel
theorem d_A_law_864 : decode m_A_law.2.1 864 = .ok (.pop, 1) := by decide +kernel
theorem d_A_law_865 : decode m_A_law.2.1 865 = .ok (.goto 339, 3) := by decide +kernel
theorem d_A_law_868 : decode m_A_law.2.1 868 = .ok (.aload_n 1, 1) := by decide +kernel
theorem d_A_law_869 : decode m_A_law.2.1 869 = .ok (.aload_n 0, 1) := by decide +kernel
theorem d_A_law_870 : decode m_A_law.2.1 870 = .ok (.iload_n 3, 1) := by decide +kernel
theorem d_A_law_871 : decode m_A_law.2.1 871 = .ok (.iconst 1, 1) := by decide +kernel
theorem d_A_law_872 : decode m_A_law.2.1 872 = .ok (.iadd, 1) := by decide +kernel
theorem d_A_law_873 : decode m_A_law.2.1 873 = .ok (.iaload, 1) := by decide +kernel
theorem d_A_law_874 : decode m_A_law.2.1 874 = .ok (.aload_n 0, 1) := by decide +kernel
theorem d_A_law_875 : decode m_A_law.2.1 875 = .ok (.iload_n 3, 1) := by decide +kernel
theorem d_A_law_876 : decode m_A_law.2.1 876 = .ok (.iconst 2, 1) := by decide +kernel
theorem d_A_law_877 : decode m_A_law.2.1 877 = .ok (.iadd, 1) := by decide +kernel
theorem d_A_law_878 : decode m_A_law.2.1 878 = .ok (.iaload, 1) := by decide +kernel
theorem d_A_law_879 : decode m_A_law.2.1 879 = .ok (.aload_n 0, 1) := by decide +kernel
theorem d_A_law_880 : decode m_A_law.2.1 880 = .ok (.iload_n 3, 1) := by decide +kernel
theorem d_A_law_881 : decode m_A_law.2.1 881 = .ok (.iconst 3, 1) := by decide +kernel
theorem d_A_law_882 : decode m_A_law.2.1 882 = .ok (.iadd, 1) := by decide +kernel
theorem d_A_law_883 : decode m_A_law.2.1 883 = .ok (.iaload, 1) := by decide +kernel
theorem d_A_law_884 : decode m_A_law.2.1 884 = .ok (.invokevirtual 99, 3) := by decide +kernel
theorem d_A_law_887 : decode m_A_law.2.1 887 = .ok (.pop, 1) := by decide +kernel
theorem d_A_law_888 : decode m_A_law.2.1 888 = .ok (.aload_n 2, 1) := by decide +kernel
theorem d_A_law_889 : decode m_A_law.2.1 889 = .ok (.aload_n 0, 1) := by decide +kernel
theorem d_A_law_890 : decode m_A_law.2.1 890 = .ok (.iload_n 3, 1) := by decide +kernel
theorem d_A_law_891 : decode m_A_law.2.1 891 = .ok (.iconst 1, 1) := by decide +kernel
theorem d_A_law_892 : decode m_A_law.2.1 892 = .ok (.iadd, 1) := by decide +kernel
theorem d_A_law_893 : decode m_A_law.2.1 893 = .ok (.iaload, 1) := by decide +kernel
theorem d_A_law_894 : decode m_A_law.2.1 894 = .ok (.aload_n 0, 1) := by decide +kernel
theorem d_A_law_895 : decode m_A_law.2.1 895 = .ok (.iload_n 3, 1) := by decide +kernel
theorem d_A_law_896 : decode m_A_law.2.1 896 = .ok (.iconst 2, 1) := by decide +kernel
theorem d_A_law_897 : decode m_A_law.2.1 897 = .ok (.iadd, 1) := by decide +kernel
theorem d_A_law_898 : decode m_A_law.2.1 898 = .ok (.iaload, 1) := by decide +kernel
theorem d_A_law_899 : decode m_A_law.2.1 899 = .ok (.aload_n 0, 1) := by decide +kernel
theorem d_A_law_900 : decode m_A_law.2.1 900 = .ok (.iload_n 3, 1) := by decide +kernel
theorem d_A_law_901 : decode m_A_law.2.1 901 = .ok (.iconst 3, 1) := by decide +kernel
theorem d_A_law_902 : decode m_A_law.2.1 902 = .ok (.iadd, 1) := by decide +kernel
theorem d_A_law_903 : decode m_A_law.2.1 903 = .ok (.iaload, 1) := by decide +kernel
theorem d_A_law_904 : decode m_A_law.2.1 904 = .ok (.invokevirtual 102, 3) := by decide +kernel
theorem d_A_law_907 : decode m_A_law.2.1 907 = .ok (.pop, 1) := by decide +kernel
theorem d_A_law_908 : decode m_A_law.2.1 908 = .ok (.goto 296, 3) := by decide +kernel
theorem d_A_law_911 : decode m_A_law.2.1 911 = .ok (.aload_n 1, 1) := by decide +kernel
theorem d_A_law_912 : decode m_A_law.2.1 912 = .ok (.aload_n 0, 1) := by decide +kernel
theorem d_A_law_913 : decode m_A_law.2.1 913 = .ok (.iload_n 3, 1) := by decide +kernel
theorem d_A_law_914 : decode m_A_law.2.1 914 = .ok (.iconst 1, 1) := by decide +kernel
theorem d_A_law_915 : decode m_A_law.2.1 915 = .ok (.iadd, 1) := by decide +kernel
theorem d_A_law_916 : decode m_A_law.2.1 916 = .ok (.iaload, 1) := by decide +kernel
theorem d_A_law_917 : decode m_A_law.2.1 917 = .ok (.aload_n 0, 1) := by decide +kernel
theorem d_A_law_918 : decode m_A_law.2.1 918 = .ok (.iload_n 3, 1) := by decide +kernel
theorem d_A_law_919 : decode m_A_law.2.1 919 = .ok (.iconst 2, 1) := by decide +kernel
theorem d_A_law_920 : decode m_A_law.2.1 920 = .ok (.iadd, 1) := by decide +kernel
theorem d_A_law_921 : decode m_A_law.2.1 921 = .ok (.iaload, 1) := by decide +kernel
theorem d_A_law_922 : decode m_A_law.2.1 922 = .ok (.invokevirtual 103, 3) := by decide +kernel
theorem d_A_law_925 : decode m_A_law.2.1 925 = .ok (.pop, 1) := by decide +kernel
theorem d_A_law_926 : decode m_A_law.2.1 926 = .ok (.aload_n 2, 1) := by decide +kernel
theorem d_A_law_927 : decode m_A_law.2.1 927 = .ok (.aload_n 0, 1) := by decide +kernel
theorem d_A_law_928 : decode m_A_law.2.1 928 = .ok (.iload_n 3, 1) := by decide +kernel
theorem d_A_law_929 : decode m_A_law.2.1 929 = .ok (.iconst 1, 1) := by decide +kernel
theorem d_A_law_930 : decode m_A_law.2.1 930 = .ok (.iadd, 1) := by decide +kernel
theorem d_A_law_931 : decode m_A_law.2.1 931 = .ok (.iaload, 1) := by decide +kernel
theorem d_A_law_932 : decode m_A_law.2.1 932 = .ok (.aload_n 0, 1) := by decide +kernel
theorem d_A_law_933 : decode m_A_law.2.1 933 = .ok (.iload_n 3, 1) := by decide +kernel
theorem d_A_law_934 : decode m_A_law.2.1 934 = .ok (.iconst 2, 1) := by decide +kernel
theorem d_A_law_935 : decode m_A_law.2.1 935 = .ok (.iadd, 1) := by decide +kernel
theorem d_A_law_936 : decode m_A_law.2.1 936 = .ok (.iaload, 1) := by decide +kernel
theorem d_A_law_937 : decode m_A_law.2.1 937 = .ok (.invokevirtual 106, 3) := by decide +kernel
theorem d_A_law_940 : decode m_A_law.2.1 940 = .ok (.pop, 1) := by decide +kernel
theorem d_A_law_941 : decode m_A_law.2.1 941 = .ok (.goto 263, 3) := by decide +kernel
theorem d_A_law_944 : decode m_A_law.2.1 944 = .ok (.aload_n 1, 1) := by decide +kernel
theorem d_A_law_945 : decode m_A_law.2.1 945 = .ok (.aload_n 0, 1) := by decide +kernel
theorem d_A_law_946 : decode m_A_law.2.1 946 = .ok (.iload_n 3, 1) := by decide +kernel
theorem d_A_law_947 : decode m_A_law.2.1 947 = .ok (.iconst 1, 1) := by decide +kernel
theorem d_A_law_948 : decode m_A_law.2.1 948 = .ok (.iadd, 1) := by decide +kernel
theorem d_A_law_949 : decode m_A_law.2.1 949 = .ok (.iaload, 1) := by decide +kernel
theorem d_A_law_950 : decode m_A_law.2.1 950 = .ok (.aload_n 0, 1) := by decide +kernel
theorem d_A_law_951 : decode m_A_law.2.1 951 = .ok (.iload_n 3, 1) := by decide +kernel
theorem d_A_law_952 : decode m_A_law.2.1 952 = .ok (.iconst 2, 1) := by decide +kernel
theorem d_A_law_953 : decode m_A_law.2.1 953 = .ok (.iadd, 1) := by decide +kernel
theorem d_A_law_954 : decode m_A_law.2.1 954 = .ok (.iaload, 1) := by decide +kernel
theorem d_A_law_955 : decode m_A_law.2.1 955 = .ok (.invokevirtual 107, 3) := by decide +kernel
theorem d_A_law_958 : decode m_A_law.2.1 958 = .ok (.pop, 1) := by decide +kernel
theorem d_A_law_959 : decode m_A_law.2.1 959 = .ok (.aload_n 2, 1) := by decide +kernel
theorem d_A_law_960 : decode m_A_law.2.1 960 = .ok (.aload_n 0, 1) := by decide +kernel
theorem d_A_law_961 : decode m_A_law.2.1 961 = .ok (.iload_n 3, 1) := by decide +kernel
theorem d_A_law_962 : decode m_A_law.2.1 962 = .ok (.iconst 1, 1) := by decide +kernel
theorem d_A_law_963 : decode m_A_law.2.1 963 = .ok (.iadd, 1) := by decide +kernel
theorem d_A_law_964 : decode m_A_law.2.1 964 = .ok (.iaload, 1) := by decide +kernel
theorem d_A_law_965 : decode m_A_law.2.1 965 = .ok (.aload_n 0, 1) := by decide +kernel
theorem d_A_law_966 : decode m_A_law.2.1 966 = .ok (.iload_n 3, 1) := by decide +kernel
theorem d_A_law_967 : decode m_A_law.2.1 967 = .ok (.iconst 2, 1) := by decide +kernel
theorem d_A_law_968 : decode m_A_law.2.1 968 = .ok (.iadd, 1) := by decide +kernel
theorem d_A_law_969 : decode m_A_law.2.1 969 = .ok (.iaload, 1) := by decide +kernel
theorem d_A_law_970 : decode m_A_law.2.1 970 = .ok (.invokevirtual 110, 3) := by decide +kernel
theorem d_A_law_973 : decode m_A_law.2.1 973 = .ok (.pop, 1) := by decide +kernel
theorem d_A_law_974 : decode m_A_law.2.1 974 = .ok (.goto 230, 3) := by decide +kernel
theorem d_A_law_977 : decode m_A_law.2.1 977 = .ok (.aload_n 1, 1) := by decide +kernel
theorem d_A_law_978 : decode m_A_law.2.1 978 = .ok (.aload_n 0, 1) := by decide +kernel
theorem d_A_law_979 : decode m_A_law.2.1 979 = .ok (.iload_n 3, 1) := by decide +kernel
theorem d_A_law_980 : decode m_A_law.2.1 980 = .ok (.iconst 1, 1) := by decide +kernel
theorem d_A_law_981 : decode m_A_law.2.1 981 = .ok (.iadd, 1) := by decide +kernel
theorem d_A_law_982 : decode m_A_law.2.1 982 = .ok (.iaload, 1) := by decide +kernel
theorem d_A_law_983 : decode m_A_law.2.1 983 = .ok (.invokevirtual 111, 3) := by decide +kernel
theorem d_A_law_986 : decode m_A_law.2.1 986 = .ok (.pop, 1) := by decide +kernel
theorem d_A_law_987 : decode m_A_law.2.1 987 = .ok (.aload_n 2, 1) := by decide +kernel
theorem d_A_law_988 : decode m_A_law.2.1 988 = .ok (.aload_n 0, 1) := by decide +kernel
theorem d_A_law_989 : decode m_A_law.2.1 989 = .ok (.iload_n 3, 1) := by decide +kernel
theorem d_A_law_990 : decode m_A_law.2.1 990 = .ok (.iconst 1, 1) := by decide +kernel
theorem d_A_law_991 : decode m_A_law.2.1 991 = .ok (.iadd, 1) := by decide +kernel
theorem d_A_law_992 : decode m_A_law.2.1 992 = .ok (.iaload, 1) := by decide +kernel
theorem d_A_law_993 : decode m_A_law.2.1 993 = .ok (.invokevirtual 114, 3) := by decide +kernel
theorem d_A_law_996 : decode m_A_law.2.1 996 = .ok (.pop, 1) := by decide +kernel
theorem d_A_law_997 : decode m_A_law.2.1 997 = .ok (.goto 207, 3) := by decide +kernel
theorem d_A_law_1000 : decode m_A_law.2.1 1000 = .ok (.aload_n 1, 1) := by decide +kernel
theorem d_A_law_1001 : decode m_A_law.2.1 1001 = .ok (.invokevirtual 115, 3) := by decide +kernel
theorem d_A_law_1004 : decode m_A_law.2.1 1004 = .ok (.pop, 1) := by decide +kernel
theorem d_A_law_1005 : decode m_A_law.2.1 1005 = .ok (.aload_n 2, 1) := by decide +kernel
theorem d_A_law_1006 : decode m_A_law.2.1 1006 = .ok (.invokevirtual 119, 3) := by decide +kernel
theorem d_A_law_1009 : decode m_A_law.2.1 1009 = .ok (.pop, 1) := by decide +kernel
theorem d_A_law_1010 : decode m_A_law.2.1 1010 = .ok (.goto 194, 3) := by decide +kernel
theorem d_A_law_1013 : decode m_A_law.2.1 1013 = .ok (.aload_n 1, 1) := by decide +kernel
theorem d_A_law_1014 : decode m_A_law.2.1 1014 = .ok (.invokevirtual 120, 3) := by decide +kernel
theorem d_A_law_1017 : decode m_A_law.2.1 1017 = .ok (.pop, 1) := by decide +kernel
theorem d_A_law_1018 : decode m_A_law.2.1 1018 = .ok (.aload_n 2, 1) := by decide +kernel
theorem d_A_law_1019 : decode m_A_law.2.1 1019 = .ok (.invokevirtual 123, 3) := by decide +kernel
theorem d_A_law_1022 : decode m_A_law.2.1 1022 = .ok (.pop, 1) := by decide +kernel
theorem d_A_law_1023 : decode m_A_law.2.1 1023 = .ok (.goto 181, 3) := by decide +kernel
theorem d_A_law_1026 : decode m_A_law.2.1 1026 = .ok (.aload_n 1, 1) := by decide +kernel
theorem d_A_law_1027 : decode m_A_law.2.1 1027 = .ok (.invokevirtual 124, 3) := by decide +kernel
theorem d_A_law_1030 : decode m_A_law.2.1 1030 = .ok (.pop, 1) := by decide +kernel
theorem d_A_law_1031 : decode m_A_law.2.1 1031 = .ok (.aload_n 2, 1) := by decide +kernel
theorem d_A_law_1032 : decode m_A_law.2.1 1032 = .ok (.invokevirtual 127, 3) := by decide +kernel
theorem d_A_law_1035 : decode m_A_law.2.1 1035 = .ok (.pop, 1) := by decide +kernel
theorem d_A_law_1036 : decode m_A_law.2.1 1036 = .ok (.goto 168, 3) := by decide +kernel
theorem d_A_law_1039 : decode m_A_law.2.1 1039 = .ok (.aload_n 1, 1) := by decide +kernel
theorem d_A_law_1040 : decode m_A_law.2.1 1040 = .ok (.aload_n 0, 1) := by decide +kernel
theorem d_A_law_1041 : decode m_A_law.2.1 1041 = .ok (.iload_n 3, 1) := by decide +kernel
theorem d_A_law_1042 : decode m_A_law.2.1 1042 = .ok (.iconst 1, 1) := by decide +kernel
theorem d_A_law_1043 : decode m_A_law.2.1 1043 = .ok (.iadd, 1) := by decide +kernel
theorem d_A_law_1044 : decode m_A_law.2.1 1044 = .ok (.iaload, 1) := by decide +kernel
theorem d_A_law_1045 : decode m_A_law.2.1 1045 = .ok (.aload_n 0, 1) := by decide +kernel
theorem d_A_law_1046 : decode m_A_law.2.1 1046 = .ok (.iload_n 3, 1) := by decide +kernel
theorem d_A_law_1047 : decode m_A_law.2.1 1047 = .ok (.iconst 2, 1) := by decide +kernel
theorem d_A_law_1048 : decode m_A_law.2.1 1048 = .ok (.iadd, 1) := by decide +kernel
theorem d_A_law_1049 : decode m_A_law.2.1 1049 = .ok (.iaload, 1) := by decide +kernel
theorem d_A_law_1050 : decode m_A_law.2.1 1050 = .ok (.invokevirtual 128, 3) := by decide +kernel
theorem d_A_law_1053 : decode m_A_law.2.1 1053 = .ok (.pop, 1) := by decide +kernel
theorem d_A_law_1054 : decode m_A_law.2.1 1054 = .ok (.aload_n 2, 1) := by decide +kernel
theorem d_A_law_1055 : decode m_A_law.2.1 1055 = .ok (.aload_n 0, 1) := by decide +kernel
theorem d_A_law_1056 : decode m_A_law.2.1 1056 = .ok (.iload_n 3, 1) := by decide +kernel
theorem d_A_law_1057 : decode m_A_law.2.1 1057 = .ok (.iconst 1, 1) := by decide +kernel
theorem d_A_law_1058 : decode m_A_law.2.1 1058 = .ok (.iadd, 1) := by decide +kernel
theorem d_A_law_1059 : decode m_A_law.2.1 1059 = .ok (.iaload, 1) := by decide +kernel
theorem d_A_law_1060 : decode m_A_law.2.1 1060 = .ok (.aload_n 0, 1) := by decide +kernel
theorem d_A_law_1061 : decode m_A_law.2.1 1061 = .ok (.iload_n 3, 1) := by decide +kernel
theorem d_A_law_1062 : decode m_A_law.2.1 1062 = .ok (.iconst 2, 1) := by decide +kernel
theorem d_A_law_1063 : decode m_A_law.2.1 1063 = .ok (.iadd, 1) := by decide +kernel
theorem d_A_law_1064 : decode m_A_law.2.1 1064 = .ok (.iaload, 1) := by decide +kernel
theorem d_A_law_1065 : decode m_A_law.2.1 1065 = .ok (.invokevirtual 131, 3) := by decide +kernel
theorem d_A_law_1068 : decode m_A_law.2.1 1068 = .ok (.pop, 1) := by decide +kernel
theorem d_A_law_1069 : decode m_A_law.2.1 1069 = .ok (.goto 135, 3) := by decide +kernel
theorem d_A_law_1072 : decode m_A_law.2.1 1072 = .ok (.aload_n 1, 1) := by decide +kernel
theorem d_A_law_1073 : decode m_A_law.2.1 1073 = .ok (.aload_n 0, 1) := by decide +kernel
theorem d_A_law_1074 : decode m_A_law.2.1 1074 = .ok (.iload_n 3, 1) := by decide +kernel
theorem d_A_law_1075 : decode m_A_law.2.1 1075 = .ok (.iconst 1, 1) := by decide +kernel
theorem d_A_law_1076 : decode m_A_law.2.1 1076 = .ok (.iadd, 1) := by decide +kernel
theorem d_A_law_1077 : decode m_A_law.2.1 1077 = .ok (.iaload, 1) := by decide +kernel
theorem d_A_law_1078 : decode m_A_law.2.1 1078 = .ok (.aload_n 0, 1) := by decide +kernel
theorem d_A_law_1079 : decode m_A_law.2.1 1079 = .ok (.iload_n 3, 1) := by decide +kernel
theorem d_A_law_1080 : decode m_A_law.2.1 1080 = .ok (.iconst 2, 1) := by decide +kernel
theorem d_A_law_1081 : decode m_A_law.2.1 1081 = .ok (.iadd, 1) := by decide +kernel
theorem d_A_law_1082 : decode m_A_law.2.1 1082 = .ok (.iaload, 1) := by decide +kernel
theorem d_A_law_1083 : decode m_A_law.2.1 1083 = .ok (.invokevirtual 132, 3) := by decide +kernel
theorem d_A_law_1086 : decode m_A_law.2.1 1086 = .ok (.aload_n 2, 1) := by decide +kernel
theorem d_A_law_1087 : decode m_A_law.2.1 1087 = .ok (.aload_n 0, 1) := by decide +kernel
theorem d_A_law_1088 : decode m_A_law.2.1 1088 = .ok (.iload_n 3, 1) := by decide +kernel
theorem d_A_law_1089 : decode m_A_law.2.1 1089 = .ok (.iconst 1, 1) := by decide +kernel
theorem d_A_law_1090 : decode m_A_law.2.1 1090 = .ok (.iadd, 1) := by decide +kernel
theorem d_A_law_1091 : decode m_A_law.2.1 1091 = .ok (.iaload, 1) := by decide +kernel
theorem d_A_law_1092 : decode m_A_law.2.1 1092 = .ok (.aload_n 0, 1) := by decide +kernel
theorem d_A_law_1093 : decode m_A_law.2.1 1093 = .ok (.iload_n 3, 1) := by decide +kernel
theorem d_A_law_1094 : decode m_A_law.2.1 1094 = .ok (.iconst 2, 1) := by decide +kernel
theorem d_A_law_1095 : decode m_A_law.2.1 1095 = .ok (.iadd, 1) := by decide +kernel
theorem d_A_law_1096 : decode m_A_law.2.1 1096 = .ok (.iaload, 1) := by decide +kernel
theorem d_A_law_1097 : decode m_A_law.2.1 1097 = .ok (.invokevirtual 135, 3) := by decide +kernel
theorem d_A_law_1100 : decode m_A_law.2.1 1100 = .ok (.if_icmp .eq 104, 3) := by decide +kernel
theorem d_A_law_1103 : decode m_A_law.2.1 1103 = .ok (.iconst 0, 1) := by decide +kernel
theorem d_A_law_1104 : decode m_A_law.2.1 1104 = .ok (.ireturn, 1) := by decide +kernel
theorem d_A_law_1105 : decode m_A_law.2.1 1105 = .ok (.aload_n 1, 1) := by decide +kernel
theorem d_A_law_1106 : decode m_A_law.2.1 1106 = .ok (.aload_n 0, 1) := by decide +kernel
theorem d_A_law_1107 : decode m_A_law.2.1 1107 = .ok (.iload_n 3, 1) := by decide +kernel
theorem d_A_law_1108 : decode m_A_law.2.1 1108 = .ok (.iconst 1, 1) := by decide +kernel
theorem d_A_law_1109 : decode m_A_law.2.1 1109 = .ok (.iadd, 1) := by decide +kernel
theorem d_A_law_1110 : decode m_A_law.2.1 1110 = .ok (.iaload, 1) := by decide +kernel
theorem d_A_law_1111 : decode m_A_law.2.1 1111 = .ok (.invokevirtual 136, 3) := by decide +kernel
theorem d_A_law_1114 : decode m_A_law.2.1 1114 = .ok (.pop, 1) := by decide +kernel
theorem d_A_law_1115 : decode m_A_law.2.1 1115 = .ok (.aload_n 2, 1) := by decide +kernel
theorem d_A_law_1116 : decode m_A_law.2.1 1116 = .ok (.aload_n 0, 1) := by decide +kernel
theorem d_A_law_1117 : decode m_A_law.2.1 1117 = .ok (.iload_n 3, 1) := by decide +kernel
theorem d_A_law_1118 : decode m_A_law.2.1 1118 = .ok (.iconst 1, 1) := by decide +kernel
theorem d_A_law_1119 : decode m_A_law.2.1 1119 = .ok (.iadd, 1) := by decide +kernel
theorem d_A_law_1120 : decode m_A_law.2.1 1120 = .ok (.iaload, 1) := by decide +kernel
theorem d_A_law_1121 : decode m_A_law.2.1 1121 = .ok (.invokevirtual 139, 3) := by decide +kernel
theorem d_A_law_1124 : decode m_A_law.2.1 1124 = .ok (.pop, 1) := by decide +kernel
theorem d_A_law_1125 : decode m_A_law.2.1 1125 = .ok (.goto 79, 3) := by decide +kernel
theorem d_A_law_1128 : decode m_A_law.2.1 1128 = .ok (.aload_n 1, 1) := by decide +kernel
theorem d_A_law_1129 : decode m_A_law.2.1 1129 = .ok (.aload_n 0, 1) := by decide +kernel
theorem d_A_law_1130 : decode m_A_law.2.1 1130 = .ok (.iload_n 3, 1) := by decide +kernel
theorem d_A_law_1131 : decode m_A_law.2.1 1131 = .ok (.iconst 1, 1) := by decide +kernel
theorem d_A_law_1132 : decode m_A_law.2.1 1132 = .ok (.iadd, 1) := by decide +kernel
theorem d_A_law_1133 : decode m_A_law.2.1 1133 = .ok (.iaload, 1) := by decide +kernel
theorem d_A_law_1134 : decode m_A_law.2.1 1134 = .ok (.aload_n 0, 1) := by decide +kernel
theorem d_A_law_1135 : decode m_A_law.2.1 1135 = .ok (.iload_n 3, 1) := by decide +kernel
theorem d_A_law_1136 : decode m_A_law.2.1 1136 = .ok (.iconst 2, 1) := by decide +kernel
theorem d_A_law_1137 : decode m_A_law.2.1 1137 = .ok (.iadd, 1) := by decide +kernel
theorem d_A_law_1138 : decode m_A_law.2.1 1138 = .ok (.iaload, 1) := by decide +kernel
theorem d_A_law_1139 : decode m_A_law.2.1 1139 = .ok (.aload_n 0, 1) := by decide +kernel
theorem d_A_law_1140 : decode m_A_law.2.1 1140 = .ok (.iload_n 3, 1) := by decide +kernel
theorem d_A_law_1141 : decode m_A_law.2.1 1141 = .ok (.iconst 3, 1) := by decide +kernel
theorem d_A_law_1142 : decode m_A_law.2.1 1142 = .ok (.iadd, 1) := by decide +kernel
theorem d_A_law_1143 : decode m_A_law.2.1 1143 = .ok (.iaload, 1) := by decide +kernel
theorem d_A_law_1144 : decode m_A_law.2.1 1144 = .ok (.aload_n 0, 1) := by decide +kernel
theorem d_A_law_1145 : decode m_A_law.2.1 1145 = .ok (.iload_n 3, 1) := by decide +kernel
theorem d_A_law_1146 : decode m_A_law.2.1 1146 = .ok (.iconst 4, 1) := by decide +kernel
theorem d_A_law_1147 : decode m_A_law.2.1 1147 = .ok (.iadd, 1) := by decide +kernel
theorem d_A_law_1148 : decode m_A_law.2.1 1148 = .ok (.iaload, 1) := by decide +kernel
theorem d_A_law_1149 : decode m_A_law.2.1 1149 = .ok (.invokevirtual 140, 3) := by decide +kernel
theorem d_A_law_1152 : decode m_A_law.2.1 1152 = .ok (.pop, 1) := by decide +kernel
theorem d_A_law_1153 : decode m_A_law.2.1 1153 = .ok (.aload_n 2, 1) := by decide +kernel
theorem d_A_law_1154 : decode m_A_law.2.1 1154 = .ok (.aload_n 0, 1) := by decide +kernel
theorem d_A_law_1155 : decode m_A_law.2.1 1155 = .ok (.iload_n 3, 1) := by decide +kernel
theorem d_A_law_1156 : decode m_A_law.2.1 1156 = .ok (.iconst 1, 1) := by decide +kernel
theorem d_A_law_1157 : decode m_A_law.2.1 1157 = .ok (.iadd, 1) := by decide +kernel
theorem d_A_law_1158 : decode m_A_law.2.1 1158 = .ok (.iaload, 1) := by decide +kernel
theorem d_A_law_1159 : decode m_A_law.2.1 1159 = .ok (.aload_n 0, 1) := by decide +kernel
theorem d_A_law_1160 : decode m_A_law.2.1 1160 = .ok (.iload_n 3, 1) := by decide +kernel
theorem d_A_law_1161 : decode m_A_law.2.1 1161 = .ok (.iconst 2, 1) := by decide +kernel
theorem d_A_law_1162 : decode m_A_law.2.1 1162 = .ok (.iadd, 1) := by decide +kernel
theorem d_A_law_1163 : decode m_A_law.2.1 1163 = .ok (.iaload, 1) := by decide +kernel
theorem d_A_law_1164 : decode m_A_law.2.1 1164 = .ok (.aload_n 0, 1) := by decide +kernel
theorem d_A_law_1165 : decode m_A_law.2.1 1165 = .ok (.iload_n 3, 1) := by decide +kernel
theorem d_A_law_1166 : decode m_A_law.2.1 1166 = .ok (.iconst 3, 1) := by decide +kernel
theorem d_A_law_1167 : decode m_A_law.2.1 1167 = .ok (.iadd, 1) := by decide +kernel
theorem d_A_law_1168 : decode m_A_law.2.1 1168 = .ok (.iaload, 1) := by decide +kernel
theorem d_A_law_1169 : decode m_A_law.2.1 1169 = .ok (.aload_n 0, 1) := by decide +kernel
theorem d_A_law_1170 : decode m_A_law.2.1 1170 = .ok (.iload_n 3, 1) := by decide +kernel
theorem d_A_law_1171 : decode m_A_law.2.1 1171 = .ok (.iconst 4, 1) := by decide +kernel
theorem d_A_law_1172 : decode m_A_law.2.1 1172 = .ok (.iadd, 1) := by decide +kernel
theorem d_A_law_1173 : decode m_A_law.2.1 1173 = .ok (.iaload, 1) := by decide +kernel
theorem d_A_law_1174 : decode m_A_law.2.1 1174 = .ok (.invokevirtual 143, 3) := by decide +kernel
theorem d_A_law_1177 : decode m_A_law.2.1 1177 = .ok (.pop, 1) := by decide +kernel
theorem d_A_law_1178 : decode m_A_law.2.1 1178 = .ok (.goto 26, 3) := by decide +kernel
theorem d_A_law_1181 : decode m_A_law.2.1 1181 = .ok (.aload_n 1, 1) := by decide +kernel
theorem d_A_law_1182 : decode m_A_law.2.1 1182 = .ok (.aload_n 0, 1) := by decide +kernel
theorem d_A_law_1183 : decode m_A_law.2.1 1183 = .ok (.iload_n 3, 1) := by decide +kernel
theorem d_A_law_1184 : decode m_A_law.2.1 1184 = .ok (.iconst 1, 1) := by decide +kernel
theorem d_A_law_1185 : decode m_A_law.2.1 1185 = .ok (.iadd, 1) := by decide +kernel
theorem d_A_law_1186 : decode m_A_law.2.1 1186 = .ok (.iaload, 1) := by decide +kernel
theorem d_A_law_1187 : decode m_A_law.2.1 1187 = .ok (.invokevirtual 144, 3) := by decide +kernel
theorem d_A_law_1190 : decode m_A_law.2.1 1190 = .ok (.pop, 1) := by decide +kernel
theorem d_A_law_1191 : decode m_A_law.2.1 1191 = .ok (.aload_n 2, 1) := by decide +kernel
theorem d_A_law_1192 : decode m_A_law.2.1 1192 = .ok (.aload_n 0, 1) := by decide +kernel
theorem d_A_law_1193 : decode m_A_law.2.1 1193 = .ok (.iload_n 3, 1) := by decide +kernel
theorem d_A_law_1194 : decode m_A_law.2.1 1194 = .ok (.iconst 1, 1) := by decide +kernel
theorem d_A_law_1195 : decode m_A_law.2.1 1195 = .ok (.iadd, 1) := by decide +kernel
theorem d_A_law_1196 : decode m_A_law.2.1 1196 = .ok (.iaload, 1) := by decide +kernel
theorem d_A_law_1197 : decode m_A_law.2.1 1197 = .ok (.invokevirtual 147, 3) := by decide +kernel
theorem d_A_law_1200 : decode m_A_law.2.1 1200 = .ok (.pop, 1) := by decide +kernel
theorem d_A_law_1201 : decode m_A_law.2.1 1201 = .ok (.goto 3, 3) := by decide +kernel
theorem d_A_law_1204 : decode m_A_law.2.1 1204 = .ok (.iinc 3 7, 3) := by decide +kernel
theorem d_A_law_1207 : decode m_A_law.2.1 1207 = .ok (.goto (-1189), 3) := by decide +kernel
theorem d_A_law_1210 : decode m_A_law.2.1 1210 = .ok (.iconst 1, 1) := by decide +kernel
theorem d_A_law_1211 : decode m_A_law.2.1 1211 = .ok (.ireturn, 1) := by decide +kernel
def f_A_law_18 : Nat → Int → qMem → Option (Int × qMem)
  | 0, _, _ => none
  | n + 1, x3, w =>
    qsn w fun v1 =>
    if x3 ≤ (w32 (v1 - 7)) then
    qld w 0 (w 0 (-1)) x3 fun v3 =>
    if (jand v3 31) = 0 then
    qld w 0 (w 0 (-1)) (w32 (x3 + 1)) fun v5 =>
    qld w 0 (w 0 (-1)) (w32 (x3 + 2)) fun v6 =>
    qld w 0 (w 0 (-1)) (w32 (x3 + 3)) fun v7 =>
    qld w 0 (w 0 (-1)) (w32 (x3 + 4)) fun v8 =>
    qld w 0 (w 0 (-1)) (w32 (x3 + 5)) fun v9 =>
    qld w 0 (w 0 (-1)) (w32 (x3 + 6)) fun v10 =>
    (f_X_torus v5 v6 v7 v8 v9 v10 w).bind fun q11 =>
    qld q11.2 0 (q11.2 0 (-1)) (w32 (x3 + 1)) fun v12 =>
    qld q11.2 0 (q11.2 0 (-1)) (w32 (x3 + 2)) fun v13 =>
    qld q11.2 0 (q11.2 0 (-1)) (w32 (x3 + 3)) fun v14 =>
    qld q11.2 0 (q11.2 0 (-1)) (w32 (x3 + 4)) fun v15 =>
    qld q11.2 0 (q11.2 0 (-1)) (w32 (x3 + 5)) fun v16 =>
    qld q11.2 0 (q11.2 0 (-1)) (w32 (x3 + 6)) fun v17 =>
    (f_M_torus v12 v13 v14 v15 v16 v17 q11.2).bind fun q18 =>
    (f_A_law_18 n) (w32 (x3 + 7)) q18.2
    else
    if (jand v3 31) = 1 then
    qld w 0 (w 0 (-1)) (w32 (x3 + 1)) fun v20 =>
    qld w 0 (w 0 (-1)) (w32 (x3 + 2)) fun v21 =>
    (f_X_send v20 v21 w).bind fun q22 =>
    qld q22.2 0 (q22.2 0 (-1)) (w32 (x3 + 1)) fun v23 =>
    qld q22.2 0 (q22.2 0 (-1)) (w32 (x3 + 2)) fun v24 =>
    (f_M_send v23 v24 q22.2).bind fun q25 =>
    (f_A_law_18 n) (w32 (x3 + 7)) q25.2
    else
    if (jand v3 31) = 2 then
    qld w 0 (w 0 (-1)) (w32 (x3 + 1)) fun v27 =>
    (f_X_shower v27 w).bind fun q28 =>
    qld q28.2 0 (q28.2 0 (-1)) (w32 (x3 + 1)) fun v29 =>
    (f_M_shower v29 q28.2).bind fun q30 =>
    (f_A_law_18 n) (w32 (x3 + 7)) q30.2
    else
    if (jand v3 31) = 3 then
    qld w 0 (w 0 (-1)) (w32 (x3 + 1)) fun v32 =>
    qld w 0 (w 0 (-1)) (w32 (x3 + 2)) fun v33 =>
    (f_X_pattern v32 v33 w).bind fun q34 =>
    qld q34.2 0 (q34.2 0 (-1)) (w32 (x3 + 1)) fun v35 =>
    qld q34.2 0 (q34.2 0 (-1)) (w32 (x3 + 2)) fun v36 =>
    (f_M_pattern v35 v36 q34.2).bind fun q37 =>
    (f_A_law_18 n) (w32 (x3 + 7)) q37.2
    else
    if (jand v3 31) = 4 then
    qld w 0 (w 0 (-1)) (w32 (x3 + 1)) fun v39 =>
    (f_X_tick v39 w).bind fun q40 =>
    qld q40.2 0 (q40.2 0 (-1)) (w32 (x3 + 1)) fun v41 =>
    (f_M_tick v41 q40.2).bind fun q42 =>
    (f_A_law_18 n) (w32 (x3 + 7)) q42.2
    else
    if (jand v3 31) = 5 then
    qld w 0 (w 0 (-1)) (w32 (x3 + 1)) fun v44 =>
    (f_X_state v44 w).bind fun q45 =>
    qld q45.2 0 (q45.2 0 (-1)) (w32 (x3 + 1)) fun v46 =>
    (f_M_state v46 q45.2).bind fun q47 =>
    (f_A_law_18 n) (w32 (x3 + 7)) q47.2
    else
    if (jand v3 31) = 6 then
    qld w 0 (w 0 (-1)) (w32 (x3 + 1)) fun v49 =>
    (f_X_bound v49 w).bind fun q50 =>
    qld q50.2 0 (q50.2 0 (-1)) (w32 (x3 + 1)) fun v51 =>
    (f_M_bound v51 q50.2).bind fun q52 =>
    (f_A_law_18 n) (w32 (x3 + 7)) q52.2
    else
    if (jand v3 31) = 7 then
    qld w 0 (w 0 (-1)) (w32 (x3 + 1)) fun v54 =>
    qld w 0 (w 0 (-1)) (w32 (x3 + 2)) fun v55 =>
    (f_X_packet v54 v55 w).bind fun q56 =>
    qld q56.2 0 (q56.2 0 (-1)) (w32 (x3 + 1)) fun v57 =>
    qld q56.2 0 (q56.2 0 (-1)) (w32 (x3 + 2)) fun v58 =>
    (f_M_packet v57 v58 q56.2).bind fun q59 =>
    (f_A_law_18 n) (w32 (x3 + 7)) q59.2
    else
    if (jand v3 31) = 8 then
    qld w 0 (w 0 (-1)) (w32 (x3 + 1)) fun v61 =>
    qld w 0 (w 0 (-1)) (w32 (x3 + 2)) fun v62 =>
    qld w 0 (w 0 (-1)) (w32 (x3 + 3)) fun v63 =>
    qld w 0 (w 0 (-1)) (w32 (x3 + 4)) fun v64 =>
    (f_X_queue v61 v62 v63 v64 w).bind fun q65 =>
    qld q65.2 0 (q65.2 0 (-1)) (w32 (x3 + 1)) fun v66 =>
    qld q65.2 0 (q65.2 0 (-1)) (w32 (x3 + 2)) fun v67 =>
    qld q65.2 0 (q65.2 0 (-1)) (w32 (x3 + 3)) fun v68 =>
    qld q65.2 0 (q65.2 0 (-1)) (w32 (x3 + 4)) fun v69 =>
    (f_M_queue v66 v67 v68 v69 q65.2).bind fun q70 =>
    (f_A_law_18 n) (w32 (x3 + 7)) q70.2
    else
    if (jand v3 31) = 9 then
    qld w 0 (w 0 (-1)) (w32 (x3 + 1)) fun v72 =>
    qld w 0 (w 0 (-1)) (w32 (x3 + 2)) fun v73 =>
    (f_X_next v72 v73 w).bind fun q74 =>
    qld q74.2 0 (q74.2 0 (-1)) (w32 (x3 + 1)) fun v75 =>
    qld q74.2 0 (q74.2 0 (-1)) (w32 (x3 + 2)) fun v76 =>
    (f_M_next v75 v76 q74.2).bind fun q77 =>
    (f_A_law_18 n) (w32 (x3 + 7)) q77.2
    else
    if (jand v3 31) = 10 then
    qld w 0 (w 0 (-1)) (w32 (x3 + 1)) fun v79 =>
    qld w 0 (w 0 (-1)) (w32 (x3 + 2)) fun v80 =>
    (f_X_far v79 v80 w).bind fun q81 =>
    qld q81.2 0 (q81.2 0 (-1)) (w32 (x3 + 1)) fun v82 =>
    qld q81.2 0 (q81.2 0 (-1)) (w32 (x3 + 2)) fun v83 =>
    (f_M_far v82 v83 q81.2).bind fun q84 =>
    (f_A_law_18 n) (w32 (x3 + 7)) q84.2
    else
    if (jand v3 31) = 11 then
    qld w 0 (w 0 (-1)) (w32 (x3 + 1)) fun v86 =>
    qld w 0 (w 0 (-1)) (w32 (x3 + 2)) fun v87 =>
    (f_X_profitable v86 v87 w).bind fun q88 =>
    qld q88.2 0 (q88.2 0 (-1)) (w32 (x3 + 1)) fun v89 =>
    qld q88.2 0 (q88.2 0 (-1)) (w32 (x3 + 2)) fun v90 =>
    (f_M_profitable v89 v90 q88.2).bind fun q91 =>
    (f_A_law_18 n) (w32 (x3 + 7)) q91.2
    else
    if (jand v3 31) = 12 then
    qld w 0 (w 0 (-1)) (w32 (x3 + 1)) fun v93 =>
    qld w 0 (w 0 (-1)) (w32 (x3 + 2)) fun v94 =>
    qld w 0 (w 0 (-1)) (w32 (x3 + 3)) fun v95 =>
    (f_X_way v93 v94 v95 w).bind fun q96 =>
    qld q96.2 0 (q96.2 0 (-1)) (w32 (x3 + 1)) fun v97 =>
    qld q96.2 0 (q96.2 0 (-1)) (w32 (x3 + 2)) fun v98 =>
    qld q96.2 0 (q96.2 0 (-1)) (w32 (x3 + 3)) fun v99 =>
    (f_M_way v97 v98 v99 q96.2).bind fun q100 =>
    (f_A_law_18 n) (w32 (x3 + 7)) q100.2
    else
    if (jand v3 31) = 13 then
    qld w 0 (w 0 (-1)) (w32 (x3 + 1)) fun v102 =>
    qld w 0 (w 0 (-1)) (w32 (x3 + 2)) fun v103 =>
    (f_X_ring v102 v103 w).bind fun q104 =>
    qld q104.2 0 (q104.2 0 (-1)) (w32 (x3 + 1)) fun v105 =>
    qld q104.2 0 (q104.2 0 (-1)) (w32 (x3 + 2)) fun v106 =>
    (f_M_ring v105 v106 q104.2).bind fun q107 =>
    (f_A_law_18 n) (w32 (x3 + 7)) q107.2
    else
    if (jand v3 31) = 14 then
    qld w 0 (w 0 (-1)) (w32 (x3 + 1)) fun v109 =>
    qld w 0 (w 0 (-1)) (w32 (x3 + 2)) fun v110 =>
    (f_X_ringOf v109 v110 w).bind fun q111 =>
    qld q111.2 0 (q111.2 0 (-1)) (w32 (x3 + 1)) fun v112 =>
    qld q111.2 0 (q111.2 0 (-1)) (w32 (x3 + 2)) fun v113 =>
    (f_M_ringOf v112 v113 q111.2).bind fun q114 =>
    (f_A_law_18 n) (w32 (x3 + 7)) q114.2
    else
    if (jand v3 31) = 15 then
    qld w 0 (w 0 (-1)) (w32 (x3 + 1)) fun v116 =>
    qld w 0 (w 0 (-1)) (w32 (x3 + 2)) fun v117 =>
    (f_X_hunger v116 v117 w).bind fun q118 =>
    qld q118.2 0 (q118.2 0 (-1)) (w32 (x3 + 1)) fun v119 =>
    qld q118.2 0 (q118.2 0 (-1)) (w32 (x3 + 2)) fun v120 =>
    (f_M_hunger v119 v120 q118.2).bind fun q121 =>
    (f_A_law_18 n) (w32 (x3 + 7)) q121.2
    else
    if (jand v3 31) = 16 then
    qld w 0 (w 0 (-1)) (w32 (x3 + 1)) fun v123 =>
    qld w 0 (w 0 (-1)) (w32 (x3 + 2)) fun v124 =>
    (f_X_node v123 v124 w).bind fun q125 =>
    qld q125.2 0 (q125.2 0 (-1)) (w32 (x3 + 1)) fun v126 =>
    qld q125.2 0 (q125.2 0 (-1)) (w32 (x3 + 2)) fun v127 =>
    (f_M_node v126 v127 q125.2).bind fun q128 =>
    (f_A_law_18 n) (w32 (x3 + 7)) q128.2
    else
    if (jand v3 31) = 17 then
    qld w 0 (w 0 (-1)) (w32 (x3 + 1)) fun v130 =>
    qld w 0 (w 0 (-1)) (w32 (x3 + 2)) fun v131 =>
    (f_X_move v130 v131 w).bind fun q132 =>
    qld q132.2 0 (q132.2 0 (-1)) (w32 (x3 + 1)) fun v133 =>
    qld q132.2 0 (q132.2 0 (-1)) (w32 (x3 + 2)) fun v134 =>
    (f_M_move v133 v134 q132.2).bind fun q135 =>
    (f_A_law_18 n) (w32 (x3 + 7)) q135.2
    else
    if (jand v3 31) = 18 then
    qld w 0 (w 0 (-1)) (w32 (x3 + 1)) fun v137 =>
    qld w 0 (w 0 (-1)) (w32 (x3 + 2)) fun v138 =>
    (f_X_link v137 v138 w).bind fun q139 =>
    qld q139.2 0 (q139.2 0 (-1)) (w32 (x3 + 1)) fun v140 =>
    qld q139.2 0 (q139.2 0 (-1)) (w32 (x3 + 2)) fun v141 =>
    (f_M_link v140 v141 q139.2).bind fun q142 =>
    (f_A_law_18 n) (w32 (x3 + 7)) q142.2
    else
    if (jand v3 31) = 19 then
    qld w 0 (w 0 (-1)) (w32 (x3 + 1)) fun v144 =>
    qld w 0 (w 0 (-1)) (w32 (x3 + 2)) fun v145 =>
    (f_X_trace v144 v145 w).bind fun q146 =>
    qld q146.2 0 (q146.2 0 (-1)) (w32 (x3 + 1)) fun v147 =>
    qld q146.2 0 (q146.2 0 (-1)) (w32 (x3 + 2)) fun v148 =>
    (f_M_trace v147 v148 q146.2).bind fun q149 =>
    (f_A_law_18 n) (w32 (x3 + 7)) q149.2
    else
    if (jand v3 31) = 20 then
    qld w 0 (w 0 (-1)) (w32 (x3 + 1)) fun v151 =>
    qld w 0 (w 0 (-1)) (w32 (x3 + 2)) fun v152 =>
    qld w 0 (w 0 (-1)) (w32 (x3 + 3)) fun v153 =>
    (f_X_pair v151 v152 v153 w).bind fun q154 =>
    qld q154.2 0 (q154.2 0 (-1)) (w32 (x3 + 1)) fun v155 =>
    qld q154.2 0 (q154.2 0 (-1)) (w32 (x3 + 2)) fun v156 =>
    qld q154.2 0 (q154.2 0 (-1)) (w32 (x3 + 3)) fun v157 =>
    (f_M_pair v155 v156 v157 q154.2).bind fun q158 =>
    (f_A_law_18 n) (w32 (x3 + 7)) q158.2
    else
    if (jand v3 31) = 21 then
    qld w 0 (w 0 (-1)) (w32 (x3 + 1)) fun v160 =>
    qld w 0 (w 0 (-1)) (w32 (x3 + 2)) fun v161 =>
    (f_X_late v160 v161 w).bind fun q162 =>
    qld q162.2 0 (q162.2 0 (-1)) (w32 (x3 + 1)) fun v163 =>
    qld q162.2 0 (q162.2 0 (-1)) (w32 (x3 + 2)) fun v164 =>
    (f_M_late v163 v164 q162.2).bind fun q165 =>
    (f_A_law_18 n) (w32 (x3 + 7)) q165.2
    else
    if (jand v3 31) = 22 then
    qld w 0 (w 0 (-1)) (w32 (x3 + 1)) fun v167 =>
    qld w 0 (w 0 (-1)) (w32 (x3 + 2)) fun v168 =>
    (f_X_lates v167 v168 w).bind fun q169 =>
    qld q169.2 0 (q169.2 0 (-1)) (w32 (x3 + 1)) fun v170 =>
    qld q169.2 0 (q169.2 0 (-1)) (w32 (x3 + 2)) fun v171 =>
    (f_M_lates v170 v171 q169.2).bind fun q172 =>
    (f_A_law_18 n) (w32 (x3 + 7)) q172.2
    else
    if (jand v3 31) = 23 then
    qld w 0 (w 0 (-1)) (w32 (x3 + 1)) fun v174 =>
    (f_X_goesOn v174 w).bind fun q175 =>
    qld q175.2 0 (q175.2 0 (-1)) (w32 (x3 + 1)) fun v176 =>
    (f_M_goesOn v176 q175.2).bind fun q177 =>
    (f_A_law_18 n) (w32 (x3 + 7)) q177.2
    else
    if (jand v3 31) = 24 then
    (f_X_stuck w).bind fun q179 =>
    (f_M_stuck q179.2).bind fun q180 =>
    (f_A_law_18 n) (w32 (x3 + 7)) q180.2
    else
    if (jand v3 31) = 25 then
    (f_X_dead w).bind fun q182 =>
    (f_M_dead q182.2).bind fun q183 =>
    (f_A_law_18 n) (w32 (x3 + 7)) q183.2
    else
    if (jand v3 31) = 26 then
    (f_X_through w).bind fun q185 =>
    (f_M_through q185.2).bind fun q186 =>
    (f_A_law_18 n) (w32 (x3 + 7)) q186.2
    else
    if (jand v3 31) = 27 then
    qld w 0 (w 0 (-1)) (w32 (x3 + 1)) fun v188 =>
    qld w 0 (w 0 (-1)) (w32 (x3 + 2)) fun v189 =>
    (f_X_arrives v188 v189 w).bind fun q190 =>
    qld q190.2 0 (q190.2 0 (-1)) (w32 (x3 + 1)) fun v191 =>
    qld q190.2 0 (q190.2 0 (-1)) (w32 (x3 + 2)) fun v192 =>
    (f_M_arrives v191 v192 q190.2).bind fun q193 =>
    (f_A_law_18 n) (w32 (x3 + 7)) q193.2
    else
    if (jand v3 31) = 28 then
    qld w 0 (w 0 (-1)) (w32 (x3 + 1)) fun v195 =>
    qld w 0 (w 0 (-1)) (w32 (x3 + 2)) fun v196 =>
    (f_X_enters v195 v196 w).bind fun q197 =>
    qld q197.2 0 (q197.2 0 (-1)) (w32 (x3 + 1)) fun v198 =>
    qld q197.2 0 (q197.2 0 (-1)) (w32 (x3 + 2)) fun v199 =>
    (f_M_enters v198 v199 q197.2).bind fun q200 =>
    if q197.1 = q200.1 then
    (f_A_law_18 n) (w32 (x3 + 7)) q200.2
    else
    some (0, q200.2)
    else
    if (jand v3 31) = 29 then
    qld w 0 (w 0 (-1)) (w32 (x3 + 1)) fun v203 =>
    (f_X_schedules v203 w).bind fun q204 =>
    qld q204.2 0 (q204.2 0 (-1)) (w32 (x3 + 1)) fun v205 =>
    (f_M_schedules v205 q204.2).bind fun q206 =>
    (f_A_law_18 n) (w32 (x3 + 7)) q206.2
    else
    if (jand v3 31) = 30 then
    qld w 0 (w 0 (-1)) (w32 (x3 + 1)) fun v208 =>
    qld w 0 (w 0 (-1)) (w32 (x3 + 2)) fun v209 =>
    qld w 0 (w 0 (-1)) (w32 (x3 + 3)) fun v210 =>
    qld w 0 (w 0 (-1)) (w32 (x3 + 4)) fun v211 =>
    (f_X_alone v208 v209 v210 v211 w).bind fun q212 =>
    qld q212.2 0 (q212.2 0 (-1)) (w32 (x3 + 1)) fun v213 =>
    qld q212.2 0 (q212.2 0 (-1)) (w32 (x3 + 2)) fun v214 =>
    qld q212.2 0 (q212.2 0 (-1)) (w32 (x3 + 3)) fun v215 =>
    qld q212.2 0 (q212.2 0 (-1)) (w32 (x3 + 4)) fun v216 =>
    (f_M_alone v213 v214 v215 v216 q212.2).bind fun q217 =>
    (f_A_law_18 n) (w32 (x3 + 7)) q217.2
    else
    if (jand v3 31) = 31 then
    qld w 0 (w 0 (-1)) (w32 (x3 + 1)) fun v219 =>
    (f_X_look v219 w).bind fun q220 =>
    qld q220.2 0 (q220.2 0 (-1)) (w32 (x3 + 1)) fun v221 =>
    (f_M_look v221 q220.2).bind fun q222 =>
    (f_A_law_18 n) (w32 (x3 + 7)) q222.2
    else
    (f_A_law_18 n) (w32 (x3 + 7)) w
    else
    some (1, w)
set_option maxRecDepth 8000 in
theorem s_A_law_18  : ∀ (n : Nat), ∀ (x3 : Int) (w : qMem), qSim κI 100 100 m_A_law 18 [] [some (qR 0), some (qR 1), some (qR 88), some (qI x3)] w (f_A_law_18 n x3 w) := by
  intro n
  induction n with
  | zero => intro x3 w; exact z_none
  | succ n ih =>
    intro x3 w
    rw [f_A_law_18]
    refine z_iload_n d_A_law_18 rfl ?_
    refine z_aload_n d_A_law_19 rfl ?_
    refine z_sn d_A_law_20 (fun v1 => ?_)
    refine z_bipush d_A_law_21 ⟨by decide, by decide⟩ ?_
    refine z_isub d_A_law_23 ?_
    refine z_icmp_gt (tgt := 1210) d_A_law_24 rfl (fun c2 => ?_) (fun c2 => ?_)
    · refine z_aload_n d_A_law_27 rfl ?_
      refine z_iload_n d_A_law_28 rfl ?_
      refine z_sl d_A_law_29 (fun v3 => ?_)
      refine z_bipush d_A_law_30 ⟨by decide, by decide⟩ ?_
      refine z_iand d_A_law_32 ?_
      refine z_if (fun c4 => ?_) (fun c4 => ?_)
      · refine z_tabIn (tgt := 176) (v := 0) d_A_law_33 c4 (by decide) (by decide) rfl rfl ?_
        refine z_aload_n d_A_law_176 rfl ?_
        refine z_aload_n d_A_law_177 rfl ?_
        refine z_iload_n d_A_law_178 rfl ?_
        refine z_ic1 d_A_law_179 ?_
        refine z_iadd d_A_law_180 ?_
        refine z_sl d_A_law_181 (fun v5 => ?_)
        refine z_aload_n d_A_law_182 rfl ?_
        refine z_iload_n d_A_law_183 rfl ?_
        refine z_ic2 d_A_law_184 ?_
        refine z_iadd d_A_law_185 ?_
        refine z_sl d_A_law_186 (fun v6 => ?_)
        refine z_aload_n d_A_law_187 rfl ?_
        refine z_iload_n d_A_law_188 rfl ?_
        refine z_ic3 d_A_law_189 ?_
        refine z_iadd d_A_law_190 ?_
        refine z_sl d_A_law_191 (fun v7 => ?_)
        refine z_aload_n d_A_law_192 rfl ?_
        refine z_iload_n d_A_law_193 rfl ?_
        refine z_ic4 d_A_law_194 ?_
        refine z_iadd d_A_law_195 ?_
        refine z_sl d_A_law_196 (fun v8 => ?_)
        refine z_aload_n d_A_law_197 rfl ?_
        refine z_iload_n d_A_law_198 rfl ?_
        refine z_ic5 d_A_law_199 ?_
        refine z_iadd d_A_law_200 ?_
        refine z_sl d_A_law_201 (fun v9 => ?_)
        refine z_aload_n d_A_law_202 rfl ?_
        refine z_iload_n d_A_law_203 rfl ?_
        refine z_bipush d_A_law_204 ⟨by decide, by decide⟩ ?_
        refine z_iadd d_A_law_206 ?_
        refine z_sl d_A_law_207 (fun v10 => ?_)
        refine z_cVI (as := [qI v5, qI v6, qI v7, qI v8, qI v9, qI v10]) (st := []) (nl := 0) (ci := 9) d_A_law_208 lk_W_13 mk_X_torus rfl rfl rfl rfl rfl rfl (s_X_torus _ _ _ _ _ _ _) (fun q11 _ hq11 => ?_)
        refine z_pop d_A_law_211 rfl ?_
        refine z_aload_n d_A_law_212 rfl ?_
        refine z_aload_n d_A_law_213 rfl ?_
        refine z_iload_n d_A_law_214 rfl ?_
        refine z_ic1 d_A_law_215 ?_
        refine z_iadd d_A_law_216 ?_
        refine z_sl d_A_law_217 (fun v12 => ?_)
        refine z_aload_n d_A_law_218 rfl ?_
        refine z_iload_n d_A_law_219 rfl ?_
        refine z_ic2 d_A_law_220 ?_
        refine z_iadd d_A_law_221 ?_
        refine z_sl d_A_law_222 (fun v13 => ?_)
        refine z_aload_n d_A_law_223 rfl ?_
        refine z_iload_n d_A_law_224 rfl ?_
        refine z_ic3 d_A_law_225 ?_
        refine z_iadd d_A_law_226 ?_
        refine z_sl d_A_law_227 (fun v14 => ?_)
        refine z_aload_n d_A_law_228 rfl ?_
        refine z_iload_n d_A_law_229 rfl ?_
        refine z_ic4 d_A_law_230 ?_
        refine z_iadd d_A_law_231 ?_
        refine z_sl d_A_law_232 (fun v15 => ?_)
        refine z_aload_n d_A_law_233 rfl ?_
        refine z_iload_n d_A_law_234 rfl ?_
        refine z_ic5 d_A_law_235 ?_
        refine z_iadd d_A_law_236 ?_
        refine z_sl d_A_law_237 (fun v16 => ?_)
        refine z_aload_n d_A_law_238 rfl ?_
        refine z_iload_n d_A_law_239 rfl ?_
        refine z_bipush d_A_law_240 ⟨by decide, by decide⟩ ?_
        refine z_iadd d_A_law_242 ?_
        refine z_sl d_A_law_243 (fun v17 => ?_)
        refine z_cVI (as := [qI v12, qI v13, qI v14, qI v15, qI v16, qI v17]) (st := []) (nl := 0) (ci := 10) d_A_law_244 lk_W_17 mk_M_torus rfl rfl rfl rfl rfl rfl (s_M_torus _ _ _ _ _ _ _) (fun q18 _ hq18 => ?_)
        refine z_pop d_A_law_247 rfl ?_
        refine z_goto (tgt := 1204) d_A_law_248 rfl ?_
        refine z_iinc (pls' := [some (qR 0), some (qR 1), some (qR 88), some (qI (w32 (x3 + 7)))]) d_A_law_1204 (by decide) rfl rfl rfl ?_
        refine z_goto (tgt := 18) d_A_law_1207 rfl ?_
        refine z_mask [true, true, true, true] ?_
        exact ih _ _
      · refine z_if (fun c19 => ?_) (fun c19 => ?_)
        · refine z_tabIn (tgt := 251) (v := 1) d_A_law_33 c19 (by decide) (by decide) rfl rfl ?_
          refine z_aload_n d_A_law_251 rfl ?_
          refine z_aload_n d_A_law_252 rfl ?_
          refine z_iload_n d_A_law_253 rfl ?_
          refine z_ic1 d_A_law_254 ?_
          refine z_iadd d_A_law_255 ?_
          refine z_sl d_A_law_256 (fun v20 => ?_)
          refine z_aload_n d_A_law_257 rfl ?_
          refine z_iload_n d_A_law_258 rfl ?_
          refine z_ic2 d_A_law_259 ?_
          refine z_iadd d_A_law_260 ?_
          refine z_sl d_A_law_261 (fun v21 => ?_)
          refine z_cVI (as := [qI v20, qI v21]) (st := []) (nl := 0) (ci := 9) d_A_law_262 lk_W_18 mk_X_send rfl rfl rfl rfl rfl rfl (s_X_send _ _ _) (fun q22 _ hq22 => ?_)
          refine z_pop d_A_law_265 rfl ?_
          refine z_aload_n d_A_law_266 rfl ?_
          refine z_aload_n d_A_law_267 rfl ?_
          refine z_iload_n d_A_law_268 rfl ?_
          refine z_ic1 d_A_law_269 ?_
          refine z_iadd d_A_law_270 ?_
          refine z_sl d_A_law_271 (fun v23 => ?_)
          refine z_aload_n d_A_law_272 rfl ?_
          refine z_iload_n d_A_law_273 rfl ?_
          refine z_ic2 d_A_law_274 ?_
          refine z_iadd d_A_law_275 ?_
          refine z_sl d_A_law_276 (fun v24 => ?_)
          refine z_cVI (as := [qI v23, qI v24]) (st := []) (nl := 0) (ci := 10) d_A_law_277 lk_W_22 mk_M_send rfl rfl rfl rfl rfl rfl (s_M_send _ _ _) (fun q25 _ hq25 => ?_)
          refine z_pop d_A_law_280 rfl ?_
          refine z_goto (tgt := 1204) d_A_law_281 rfl ?_
          refine z_iinc (pls' := [some (qR 0), some (qR 1), some (qR 88), some (qI (w32 (x3 + 7)))]) d_A_law_1204 (by decide) rfl rfl rfl ?_
          refine z_goto (tgt := 18) d_A_law_1207 rfl ?_
          refine z_mask [true, true, true, true] ?_
          exact ih _ _
        · refine z_if (fun c26 => ?_) (fun c26 => ?_)
          · refine z_tabIn (tgt := 284) (v := 2) d_A_law_33 c26 (by decide) (by decide) rfl rfl ?_
            refine z_aload_n d_A_law_284 rfl ?_
            refine z_aload_n d_A_law_285 rfl ?_
            refine z_iload_n d_A_law_286 rfl ?_
            refine z_ic1 d_A_law_287 ?_
            refine z_iadd d_A_law_288 ?_
            refine z_sl d_A_law_289 (fun v27 => ?_)
            refine z_cVI (as := [qI v27]) (st := []) (nl := 4) (ci := 9) d_A_law_290 lk_W_23 mk_X_shower rfl rfl rfl rfl rfl rfl (s_X_shower _ _) (fun q28 _ hq28 => ?_)
            refine z_pop d_A_law_293 rfl ?_
            refine z_aload_n d_A_law_294 rfl ?_
            refine z_aload_n d_A_law_295 rfl ?_
            refine z_iload_n d_A_law_296 rfl ?_
            refine z_ic1 d_A_law_297 ?_
            refine z_iadd d_A_law_298 ?_
            refine z_sl d_A_law_299 (fun v29 => ?_)
            refine z_cVI (as := [qI v29]) (st := []) (nl := 4) (ci := 10) d_A_law_300 lk_W_27 mk_M_shower rfl rfl rfl rfl rfl rfl (s_M_shower _ _) (fun q30 _ hq30 => ?_)
            refine z_pop d_A_law_303 rfl ?_
            refine z_goto (tgt := 1204) d_A_law_304 rfl ?_
            refine z_iinc (pls' := [some (qR 0), some (qR 1), some (qR 88), some (qI (w32 (x3 + 7)))]) d_A_law_1204 (by decide) rfl rfl rfl ?_
            refine z_goto (tgt := 18) d_A_law_1207 rfl ?_
            refine z_mask [true, true, true, true] ?_
            exact ih _ _
          · refine z_if (fun c31 => ?_) (fun c31 => ?_)
            · refine z_tabIn (tgt := 307) (v := 3) d_A_law_33 c31 (by decide) (by decide) rfl rfl ?_
              refine z_aload_n d_A_law_307 rfl ?_
              refine z_aload_n d_A_law_308 rfl ?_
              refine z_iload_n d_A_law_309 rfl ?_
              refine z_ic1 d_A_law_310 ?_
              refine z_iadd d_A_law_311 ?_
              refine z_sl d_A_law_312 (fun v32 => ?_)
              refine z_aload_n d_A_law_313 rfl ?_
              refine z_iload_n d_A_law_314 rfl ?_
              refine z_ic2 d_A_law_315 ?_
              refine z_iadd d_A_law_316 ?_
              refine z_sl d_A_law_317 (fun v33 => ?_)
              refine z_cVI (as := [qI v32, qI v33]) (st := []) (nl := 3) (ci := 9) d_A_law_318 lk_W_28 mk_X_pattern rfl rfl rfl rfl rfl rfl (s_X_pattern _ _ _) (fun q34 _ hq34 => ?_)
              refine z_pop d_A_law_321 rfl ?_
              refine z_aload_n d_A_law_322 rfl ?_
              refine z_aload_n d_A_law_323 rfl ?_
              refine z_iload_n d_A_law_324 rfl ?_
              refine z_ic1 d_A_law_325 ?_
              refine z_iadd d_A_law_326 ?_
              refine z_sl d_A_law_327 (fun v35 => ?_)
              refine z_aload_n d_A_law_328 rfl ?_
              refine z_iload_n d_A_law_329 rfl ?_
              refine z_ic2 d_A_law_330 ?_
              refine z_iadd d_A_law_331 ?_
              refine z_sl d_A_law_332 (fun v36 => ?_)
              refine z_cVI (as := [qI v35, qI v36]) (st := []) (nl := 3) (ci := 10) d_A_law_333 lk_W_31 mk_M_pattern rfl rfl rfl rfl rfl rfl (s_M_pattern _ _ _) (fun q37 _ hq37 => ?_)
              refine z_pop d_A_law_336 rfl ?_
              refine z_goto (tgt := 1204) d_A_law_337 rfl ?_
              refine z_iinc (pls' := [some (qR 0), some (qR 1), some (qR 88), some (qI (w32 (x3 + 7)))]) d_A_law_1204 (by decide) rfl rfl rfl ?_
              refine z_goto (tgt := 18) d_A_law_1207 rfl ?_
              refine z_mask [true, true, true, true] ?_
              exact ih _ _
            · refine z_if (fun c38 => ?_) (fun c38 => ?_)
              · refine z_tabIn (tgt := 340) (v := 4) d_A_law_33 c38 (by decide) (by decide) rfl rfl ?_
                refine z_aload_n d_A_law_340 rfl ?_
                refine z_aload_n d_A_law_341 rfl ?_
                refine z_iload_n d_A_law_342 rfl ?_
                refine z_ic1 d_A_law_343 ?_
                refine z_iadd d_A_law_344 ?_
                refine z_sl d_A_law_345 (fun v39 => ?_)
                refine z_cVI (as := [qI v39]) (st := []) (nl := 2) (ci := 9) d_A_law_346 lk_W_32 mk_X_tick rfl rfl rfl rfl rfl rfl (s_X_tick _ _) (fun q40 _ hq40 => ?_)
                refine z_pop d_A_law_349 rfl ?_
                refine z_aload_n d_A_law_350 rfl ?_
                refine z_aload_n d_A_law_351 rfl ?_
                refine z_iload_n d_A_law_352 rfl ?_
                refine z_ic1 d_A_law_353 ?_
                refine z_iadd d_A_law_354 ?_
                refine z_sl d_A_law_355 (fun v41 => ?_)
                refine z_cVI (as := [qI v41]) (st := []) (nl := 2) (ci := 10) d_A_law_356 lk_W_35 mk_M_tick rfl rfl rfl rfl rfl rfl (s_M_tick _ _) (fun q42 _ hq42 => ?_)
                refine z_pop d_A_law_359 rfl ?_
                refine z_goto (tgt := 1204) d_A_law_360 rfl ?_
                refine z_iinc (pls' := [some (qR 0), some (qR 1), some (qR 88), some (qI (w32 (x3 + 7)))]) d_A_law_1204 (by decide) rfl rfl rfl ?_
                refine z_goto (tgt := 18) d_A_law_1207 rfl ?_
                refine z_mask [true, true, true, true] ?_
                exact ih _ _
              · refine z_if (fun c43 => ?_) (fun c43 => ?_)
                · refine z_tabIn (tgt := 363) (v := 5) d_A_law_33 c43 (by decide) (by decide) rfl rfl ?_
                  refine z_aload_n d_A_law_363 rfl ?_
                  refine z_aload_n d_A_law_364 rfl ?_
                  refine z_iload_n d_A_law_365 rfl ?_
                  refine z_ic1 d_A_law_366 ?_
                  refine z_iadd d_A_law_367 ?_
                  refine z_sl d_A_law_368 (fun v44 => ?_)
                  refine z_cVI (as := [qI v44]) (st := []) (nl := 1) (ci := 9) d_A_law_369 lk_W_36 mk_X_state rfl rfl rfl rfl rfl rfl (s_X_state _ _) (fun q45 _ hq45 => ?_)
                  refine z_pop d_A_law_372 rfl ?_
                  refine z_aload_n d_A_law_373 rfl ?_
                  refine z_aload_n d_A_law_374 rfl ?_
                  refine z_iload_n d_A_law_375 rfl ?_
                  refine z_ic1 d_A_law_376 ?_
                  refine z_iadd d_A_law_377 ?_
                  refine z_sl d_A_law_378 (fun v46 => ?_)
                  refine z_cVI (as := [qI v46]) (st := []) (nl := 1) (ci := 10) d_A_law_379 lk_W_39 mk_M_state rfl rfl rfl rfl rfl rfl (s_M_state _ _) (fun q47 _ hq47 => ?_)
                  refine z_pop d_A_law_382 rfl ?_
                  refine z_goto (tgt := 1204) d_A_law_383 rfl ?_
                  refine z_iinc (pls' := [some (qR 0), some (qR 1), some (qR 88), some (qI (w32 (x3 + 7)))]) d_A_law_1204 (by decide) rfl rfl rfl ?_
                  refine z_goto (tgt := 18) d_A_law_1207 rfl ?_
                  refine z_mask [true, true, true, true] ?_
                  exact ih _ _
                · refine z_if (fun c48 => ?_) (fun c48 => ?_)
                  · refine z_tabIn (tgt := 386) (v := 6) d_A_law_33 c48 (by decide) (by decide) rfl rfl ?_
                    refine z_aload_n d_A_law_386 rfl ?_
                    refine z_aload_n d_A_law_387 rfl ?_
                    refine z_iload_n d_A_law_388 rfl ?_
                    refine z_ic1 d_A_law_389 ?_
                    refine z_iadd d_A_law_390 ?_
                    refine z_sl d_A_law_391 (fun v49 => ?_)
                    refine z_cVI (as := [qI v49]) (st := []) (nl := 0) (ci := 9) d_A_law_392 lk_W_40 mk_X_bound rfl rfl rfl rfl rfl rfl (s_X_bound _ _) (fun q50 _ hq50 => ?_)
                    refine z_pop d_A_law_395 rfl ?_
                    refine z_aload_n d_A_law_396 rfl ?_
                    refine z_aload_n d_A_law_397 rfl ?_
                    refine z_iload_n d_A_law_398 rfl ?_
                    refine z_ic1 d_A_law_399 ?_
                    refine z_iadd d_A_law_400 ?_
                    refine z_sl d_A_law_401 (fun v51 => ?_)
                    refine z_cVI (as := [qI v51]) (st := []) (nl := 0) (ci := 10) d_A_law_402 lk_W_44 mk_M_bound rfl rfl rfl rfl rfl rfl (s_M_bound _ _) (fun q52 _ hq52 => ?_)
                    refine z_pop d_A_law_405 rfl ?_
                    refine z_goto (tgt := 1204) d_A_law_406 rfl ?_
                    refine z_iinc (pls' := [some (qR 0), some (qR 1), some (qR 88), some (qI (w32 (x3 + 7)))]) d_A_law_1204 (by decide) rfl rfl rfl ?_
                    refine z_goto (tgt := 18) d_A_law_1207 rfl ?_
                    refine z_mask [true, true, true, true] ?_
                    exact ih _ _
                  · refine z_if (fun c53 => ?_) (fun c53 => ?_)
                    · refine z_tabIn (tgt := 409) (v := 7) d_A_law_33 c53 (by decide) (by decide) rfl rfl ?_
                      refine z_aload_n d_A_law_409 rfl ?_
                      refine z_aload_n d_A_law_410 rfl ?_
                      refine z_iload_n d_A_law_411 rfl ?_
                      refine z_ic1 d_A_law_412 ?_
                      refine z_iadd d_A_law_413 ?_
                      refine z_sl d_A_law_414 (fun v54 => ?_)
                      refine z_aload_n d_A_law_415 rfl ?_
                      refine z_iload_n d_A_law_416 rfl ?_
                      refine z_ic2 d_A_law_417 ?_
                      refine z_iadd d_A_law_418 ?_
                      refine z_sl d_A_law_419 (fun v55 => ?_)
                      refine z_cVI (as := [qI v54, qI v55]) (st := []) (nl := 0) (ci := 9) d_A_law_420 lk_W_45 mk_X_packet rfl rfl rfl rfl rfl rfl (s_X_packet _ _ _) (fun q56 _ hq56 => ?_)
                      refine z_pop d_A_law_423 rfl ?_
                      refine z_aload_n d_A_law_424 rfl ?_
                      refine z_aload_n d_A_law_425 rfl ?_
                      refine z_iload_n d_A_law_426 rfl ?_
                      refine z_ic1 d_A_law_427 ?_
                      refine z_iadd d_A_law_428 ?_
                      refine z_sl d_A_law_429 (fun v57 => ?_)
                      refine z_aload_n d_A_law_430 rfl ?_
                      refine z_iload_n d_A_law_431 rfl ?_
                      refine z_ic2 d_A_law_432 ?_
                      refine z_iadd d_A_law_433 ?_
                      refine z_sl d_A_law_434 (fun v58 => ?_)
                      refine z_cVI (as := [qI v57, qI v58]) (st := []) (nl := 0) (ci := 10) d_A_law_435 lk_W_48 mk_M_packet rfl rfl rfl rfl rfl rfl (s_M_packet _ _ _) (fun q59 _ hq59 => ?_)
                      refine z_pop d_A_law_438 rfl ?_
                      refine z_goto (tgt := 1204) d_A_law_439 rfl ?_
                      refine z_iinc (pls' := [some (qR 0), some (qR 1), some (qR 88), some (qI (w32 (x3 + 7)))]) d_A_law_1204 (by decide) rfl rfl rfl ?_
                      refine z_goto (tgt := 18) d_A_law_1207 rfl ?_
                      refine z_mask [true, true, true, true] ?_
                      exact ih _ _
                    · refine z_if (fun c60 => ?_) (fun c60 => ?_)
                      · refine z_tabIn (tgt := 442) (v := 8) d_A_law_33 c60 (by decide) (by decide) rfl rfl ?_
                        refine z_aload_n d_A_law_442 rfl ?_
                        refine z_aload_n d_A_law_443 rfl ?_
                        refine z_iload_n d_A_law_444 rfl ?_
                        refine z_ic1 d_A_law_445 ?_
                        refine z_iadd d_A_law_446 ?_
                        refine z_sl d_A_law_447 (fun v61 => ?_)
                        refine z_aload_n d_A_law_448 rfl ?_
                        refine z_iload_n d_A_law_449 rfl ?_
                        refine z_ic2 d_A_law_450 ?_
                        refine z_iadd d_A_law_451 ?_
                        refine z_sl d_A_law_452 (fun v62 => ?_)
                        refine z_aload_n d_A_law_453 rfl ?_
                        refine z_iload_n d_A_law_454 rfl ?_
                        refine z_ic3 d_A_law_455 ?_
                        refine z_iadd d_A_law_456 ?_
                        refine z_sl d_A_law_457 (fun v63 => ?_)
                        refine z_aload_n d_A_law_458 rfl ?_
                        refine z_iload_n d_A_law_459 rfl ?_
                        refine z_ic4 d_A_law_460 ?_
                        refine z_iadd d_A_law_461 ?_
                        refine z_sl d_A_law_462 (fun v64 => ?_)
                        refine z_cVI (as := [qI v61, qI v62, qI v63, qI v64]) (st := []) (nl := 1) (ci := 9) d_A_law_463 lk_W_49 mk_X_queue rfl rfl rfl rfl rfl rfl (s_X_queue _ _ _ _ _) (fun q65 _ hq65 => ?_)
                        refine z_pop d_A_law_466 rfl ?_
                        refine z_aload_n d_A_law_467 rfl ?_
                        refine z_aload_n d_A_law_468 rfl ?_
                        refine z_iload_n d_A_law_469 rfl ?_
                        refine z_ic1 d_A_law_470 ?_
                        refine z_iadd d_A_law_471 ?_
                        refine z_sl d_A_law_472 (fun v66 => ?_)
                        refine z_aload_n d_A_law_473 rfl ?_
                        refine z_iload_n d_A_law_474 rfl ?_
                        refine z_ic2 d_A_law_475 ?_
                        refine z_iadd d_A_law_476 ?_
                        refine z_sl d_A_law_477 (fun v67 => ?_)
                        refine z_aload_n d_A_law_478 rfl ?_
                        refine z_iload_n d_A_law_479 rfl ?_
                        refine z_ic3 d_A_law_480 ?_
                        refine z_iadd d_A_law_481 ?_
                        refine z_sl d_A_law_482 (fun v68 => ?_)
                        refine z_aload_n d_A_law_483 rfl ?_
                        refine z_iload_n d_A_law_484 rfl ?_
                        refine z_ic4 d_A_law_485 ?_
                        refine z_iadd d_A_law_486 ?_
                        refine z_sl d_A_law_487 (fun v69 => ?_)
                        refine z_cVI (as := [qI v66, qI v67, qI v68, qI v69]) (st := []) (nl := 1) (ci := 10) d_A_law_488 lk_W_53 mk_M_queue rfl rfl rfl rfl rfl rfl (s_M_queue _ _ _ _ _) (fun q70 _ hq70 => ?_)
                        refine z_pop d_A_law_491 rfl ?_
                        refine z_goto (tgt := 1204) d_A_law_492 rfl ?_
                        refine z_iinc (pls' := [some (qR 0), some (qR 1), some (qR 88), some (qI (w32 (x3 + 7)))]) d_A_law_1204 (by decide) rfl rfl rfl ?_
                        refine z_goto (tgt := 18) d_A_law_1207 rfl ?_
                        refine z_mask [true, true, true, true] ?_
                        exact ih _ _
                      · refine z_if (fun c71 => ?_) (fun c71 => ?_)
                        · refine z_tabIn (tgt := 495) (v := 9) d_A_law_33 c71 (by decide) (by decide) rfl rfl ?_
                          refine z_aload_n d_A_law_495 rfl ?_
                          refine z_aload_n d_A_law_496 rfl ?_
                          refine z_iload_n d_A_law_497 rfl ?_
                          refine z_ic1 d_A_law_498 ?_
                          refine z_iadd d_A_law_499 ?_
                          refine z_sl d_A_law_500 (fun v72 => ?_)
                          refine z_aload_n d_A_law_501 rfl ?_
                          refine z_iload_n d_A_law_502 rfl ?_
                          refine z_ic2 d_A_law_503 ?_
                          refine z_iadd d_A_law_504 ?_
                          refine z_sl d_A_law_505 (fun v73 => ?_)
                          refine z_cVI (as := [qI v72, qI v73]) (st := []) (nl := 0) (ci := 9) d_A_law_506 lk_W_54 mk_X_next rfl rfl rfl rfl rfl rfl (s_X_next _ _ _) (fun q74 _ hq74 => ?_)
                          refine z_pop d_A_law_509 rfl ?_
                          refine z_aload_n d_A_law_510 rfl ?_
                          refine z_aload_n d_A_law_511 rfl ?_
                          refine z_iload_n d_A_law_512 rfl ?_
                          refine z_ic1 d_A_law_513 ?_
                          refine z_iadd d_A_law_514 ?_
                          refine z_sl d_A_law_515 (fun v75 => ?_)
                          refine z_aload_n d_A_law_516 rfl ?_
                          refine z_iload_n d_A_law_517 rfl ?_
                          refine z_ic2 d_A_law_518 ?_
                          refine z_iadd d_A_law_519 ?_
                          refine z_sl d_A_law_520 (fun v76 => ?_)
                          refine z_cVI (as := [qI v75, qI v76]) (st := []) (nl := 0) (ci := 10) d_A_law_521 lk_W_57 mk_M_next rfl rfl rfl rfl rfl rfl (s_M_next _ _ _) (fun q77 _ hq77 => ?_)
                          refine z_pop d_A_law_524 rfl ?_
                          refine z_goto (tgt := 1204) d_A_law_525 rfl ?_
                          refine z_iinc (pls' := [some (qR 0), some (qR 1), some (qR 88), some (qI (w32 (x3 + 7)))]) d_A_law_1204 (by decide) rfl rfl rfl ?_
                          refine z_goto (tgt := 18) d_A_law_1207 rfl ?_
                          refine z_mask [true, true, true, true] ?_
                          exact ih _ _
                        · refine z_if (fun c78 => ?_) (fun c78 => ?_)
                          · refine z_tabIn (tgt := 528) (v := 10) d_A_law_33 c78 (by decide) (by decide) rfl rfl ?_
                            refine z_aload_n d_A_law_528 rfl ?_
                            refine z_aload_n d_A_law_529 rfl ?_
                            refine z_iload_n d_A_law_530 rfl ?_
                            refine z_ic1 d_A_law_531 ?_
                            refine z_iadd d_A_law_532 ?_
                            refine z_sl d_A_law_533 (fun v79 => ?_)
                            refine z_aload_n d_A_law_534 rfl ?_
                            refine z_iload_n d_A_law_535 rfl ?_
                            refine z_ic2 d_A_law_536 ?_
                            refine z_iadd d_A_law_537 ?_
                            refine z_sl d_A_law_538 (fun v80 => ?_)
                            refine z_cVI (as := [qI v79, qI v80]) (st := []) (nl := 0) (ci := 9) d_A_law_539 lk_W_58 mk_X_far rfl rfl rfl rfl rfl rfl (s_X_far _ _ _) (fun q81 _ hq81 => ?_)
                            refine z_pop d_A_law_542 rfl ?_
                            refine z_aload_n d_A_law_543 rfl ?_
                            refine z_aload_n d_A_law_544 rfl ?_
                            refine z_iload_n d_A_law_545 rfl ?_
                            refine z_ic1 d_A_law_546 ?_
                            refine z_iadd d_A_law_547 ?_
                            refine z_sl d_A_law_548 (fun v82 => ?_)
                            refine z_aload_n d_A_law_549 rfl ?_
                            refine z_iload_n d_A_law_550 rfl ?_
                            refine z_ic2 d_A_law_551 ?_
                            refine z_iadd d_A_law_552 ?_
                            refine z_sl d_A_law_553 (fun v83 => ?_)
                            refine z_cVI (as := [qI v82, qI v83]) (st := []) (nl := 0) (ci := 10) d_A_law_554 lk_W_61 mk_M_far rfl rfl rfl rfl rfl rfl (s_M_far _ _ _) (fun q84 _ hq84 => ?_)
                            refine z_pop d_A_law_557 rfl ?_
                            refine z_goto (tgt := 1204) d_A_law_558 rfl ?_
                            refine z_iinc (pls' := [some (qR 0), some (qR 1), some (qR 88), some (qI (w32 (x3 + 7)))]) d_A_law_1204 (by decide) rfl rfl rfl ?_
                            refine z_goto (tgt := 18) d_A_law_1207 rfl ?_
                            refine z_mask [true, true, true, true] ?_
                            exact ih _ _
                          · refine z_if (fun c85 => ?_) (fun c85 => ?_)
                            · refine z_tabIn (tgt := 561) (v := 11) d_A_law_33 c85 (by decide) (by decide) rfl rfl ?_
                              refine z_aload_n d_A_law_561 rfl ?_
                              refine z_aload_n d_A_law_562 rfl ?_
                              refine z_iload_n d_A_law_563 rfl ?_
                              refine z_ic1 d_A_law_564 ?_
                              refine z_iadd d_A_law_565 ?_
                              refine z_sl d_A_law_566 (fun v86 => ?_)
                              refine z_aload_n d_A_law_567 rfl ?_
                              refine z_iload_n d_A_law_568 rfl ?_
                              refine z_ic2 d_A_law_569 ?_
                              refine z_iadd d_A_law_570 ?_
                              refine z_sl d_A_law_571 (fun v87 => ?_)
                              refine z_cVI (as := [qI v86, qI v87]) (st := []) (nl := 0) (ci := 9) d_A_law_572 lk_W_62 mk_X_profitable rfl rfl rfl rfl rfl rfl (s_X_profitable _ _ _) (fun q88 _ hq88 => ?_)
                              refine z_pop d_A_law_575 rfl ?_
                              refine z_aload_n d_A_law_576 rfl ?_
                              refine z_aload_n d_A_law_577 rfl ?_
                              refine z_iload_n d_A_law_578 rfl ?_
                              refine z_ic1 d_A_law_579 ?_
                              refine z_iadd d_A_law_580 ?_
                              refine z_sl d_A_law_581 (fun v89 => ?_)
                              refine z_aload_n d_A_law_582 rfl ?_
                              refine z_iload_n d_A_law_583 rfl ?_
                              refine z_ic2 d_A_law_584 ?_
                              refine z_iadd d_A_law_585 ?_
                              refine z_sl d_A_law_586 (fun v90 => ?_)
                              refine z_cVI (as := [qI v89, qI v90]) (st := []) (nl := 2) (ci := 10) d_A_law_587 lk_W_65 mk_M_profitable rfl rfl rfl rfl rfl rfl (s_M_profitable _ _ _) (fun q91 _ hq91 => ?_)
                              refine z_pop d_A_law_590 rfl ?_
                              refine z_goto (tgt := 1204) d_A_law_591 rfl ?_
                              refine z_iinc (pls' := [some (qR 0), some (qR 1), some (qR 88), some (qI (w32 (x3 + 7)))]) d_A_law_1204 (by decide) rfl rfl rfl ?_
                              refine z_goto (tgt := 18) d_A_law_1207 rfl ?_
                              refine z_mask [true, true, true, true] ?_
                              exact ih _ _
                            · refine z_if (fun c92 => ?_) (fun c92 => ?_)
                              · refine z_tabIn (tgt := 594) (v := 12) d_A_law_33 c92 (by decide) (by decide) rfl rfl ?_
                                refine z_aload_n d_A_law_594 rfl ?_
                                refine z_aload_n d_A_law_595 rfl ?_
                                refine z_iload_n d_A_law_596 rfl ?_
                                refine z_ic1 d_A_law_597 ?_
                                refine z_iadd d_A_law_598 ?_
                                refine z_sl d_A_law_599 (fun v93 => ?_)
                                refine z_aload_n d_A_law_600 rfl ?_
                                refine z_iload_n d_A_law_601 rfl ?_
                                refine z_ic2 d_A_law_602 ?_
                                refine z_iadd d_A_law_603 ?_
                                refine z_sl d_A_law_604 (fun v94 => ?_)
                                refine z_aload_n d_A_law_605 rfl ?_
                                refine z_iload_n d_A_law_606 rfl ?_
                                refine z_ic3 d_A_law_607 ?_
                                refine z_iadd d_A_law_608 ?_
                                refine z_sl d_A_law_609 (fun v95 => ?_)
                                refine z_cVI (as := [qI v93, qI v94, qI v95]) (st := []) (nl := 0) (ci := 9) d_A_law_610 lk_W_66 mk_X_way rfl rfl rfl rfl rfl rfl (s_X_way _ _ _ _) (fun q96 _ hq96 => ?_)
                                refine z_pop d_A_law_613 rfl ?_
                                refine z_aload_n d_A_law_614 rfl ?_
                                refine z_aload_n d_A_law_615 rfl ?_
                                refine z_iload_n d_A_law_616 rfl ?_
                                refine z_ic1 d_A_law_617 ?_
                                refine z_iadd d_A_law_618 ?_
                                refine z_sl d_A_law_619 (fun v97 => ?_)
                                refine z_aload_n d_A_law_620 rfl ?_
                                refine z_iload_n d_A_law_621 rfl ?_
                                refine z_ic2 d_A_law_622 ?_
                                refine z_iadd d_A_law_623 ?_
                                refine z_sl d_A_law_624 (fun v98 => ?_)
                                refine z_aload_n d_A_law_625 rfl ?_
                                refine z_iload_n d_A_law_626 rfl ?_
                                refine z_ic3 d_A_law_627 ?_
                                refine z_iadd d_A_law_628 ?_
                                refine z_sl d_A_law_629 (fun v99 => ?_)
                                refine z_cVI (as := [qI v97, qI v98, qI v99]) (st := []) (nl := 3) (ci := 10) d_A_law_630 lk_W_70 mk_M_way rfl rfl rfl rfl rfl rfl (s_M_way _ _ _ _) (fun q100 _ hq100 => ?_)
                                refine z_pop d_A_law_633 rfl ?_
                                refine z_goto (tgt := 1204) d_A_law_634 rfl ?_
                                refine z_iinc (pls' := [some (qR 0), some (qR 1), some (qR 88), some (qI (w32 (x3 + 7)))]) d_A_law_1204 (by decide) rfl rfl rfl ?_
                                refine z_goto (tgt := 18) d_A_law_1207 rfl ?_
                                refine z_mask [true, true, true, true] ?_
                                exact ih _ _
                              · refine z_if (fun c101 => ?_) (fun c101 => ?_)
                                · refine z_tabIn (tgt := 637) (v := 13) d_A_law_33 c101 (by decide) (by decide) rfl rfl ?_
                                  refine z_aload_n d_A_law_637 rfl ?_
                                  refine z_aload_n d_A_law_638 rfl ?_
                                  refine z_iload_n d_A_law_639 rfl ?_
                                  refine z_ic1 d_A_law_640 ?_
                                  refine z_iadd d_A_law_641 ?_
                                  refine z_sl d_A_law_642 (fun v102 => ?_)
                                  refine z_aload_n d_A_law_643 rfl ?_
                                  refine z_iload_n d_A_law_644 rfl ?_
                                  refine z_ic2 d_A_law_645 ?_
                                  refine z_iadd d_A_law_646 ?_
                                  refine z_sl d_A_law_647 (fun v103 => ?_)
                                  refine z_cVI (as := [qI v102, qI v103]) (st := []) (nl := 0) (ci := 9) d_A_law_648 lk_W_71 mk_X_ring rfl rfl rfl rfl rfl rfl (s_X_ring _ _ _) (fun q104 _ hq104 => ?_)
                                  refine z_pop d_A_law_651 rfl ?_
                                  refine z_aload_n d_A_law_652 rfl ?_
                                  refine z_aload_n d_A_law_653 rfl ?_
                                  refine z_iload_n d_A_law_654 rfl ?_
                                  refine z_ic1 d_A_law_655 ?_
                                  refine z_iadd d_A_law_656 ?_
                                  refine z_sl d_A_law_657 (fun v105 => ?_)
                                  refine z_aload_n d_A_law_658 rfl ?_
                                  refine z_iload_n d_A_law_659 rfl ?_
                                  refine z_ic2 d_A_law_660 ?_
                                  refine z_iadd d_A_law_661 ?_
                                  refine z_sl d_A_law_662 (fun v106 => ?_)
                                  refine z_cVI (as := [qI v105, qI v106]) (st := []) (nl := 1) (ci := 10) d_A_law_663 lk_W_74 mk_M_ring rfl rfl rfl rfl rfl rfl (s_M_ring _ _ _) (fun q107 _ hq107 => ?_)
                                  refine z_pop d_A_law_666 rfl ?_
                                  refine z_goto (tgt := 1204) d_A_law_667 rfl ?_
                                  refine z_iinc (pls' := [some (qR 0), some (qR 1), some (qR 88), some (qI (w32 (x3 + 7)))]) d_A_law_1204 (by decide) rfl rfl rfl ?_
                                  refine z_goto (tgt := 18) d_A_law_1207 rfl ?_
                                  refine z_mask [true, true, true, true] ?_
                                  exact ih _ _
                                · refine z_if (fun c108 => ?_) (fun c108 => ?_)
                                  · refine z_tabIn (tgt := 670) (v := 14) d_A_law_33 c108 (by decide) (by decide) rfl rfl ?_
                                    refine z_aload_n d_A_law_670 rfl ?_
                                    refine z_aload_n d_A_law_671 rfl ?_
                                    refine z_iload_n d_A_law_672 rfl ?_
                                    refine z_ic1 d_A_law_673 ?_
                                    refine z_iadd d_A_law_674 ?_
                                    refine z_sl d_A_law_675 (fun v109 => ?_)
                                    refine z_aload_n d_A_law_676 rfl ?_
                                    refine z_iload_n d_A_law_677 rfl ?_
                                    refine z_ic2 d_A_law_678 ?_
                                    refine z_iadd d_A_law_679 ?_
                                    refine z_sl d_A_law_680 (fun v110 => ?_)
                                    refine z_cVI (as := [qI v109, qI v110]) (st := []) (nl := 0) (ci := 9) d_A_law_681 lk_W_75 mk_X_ringOf rfl rfl rfl rfl rfl rfl (s_X_ringOf _ _ _) (fun q111 _ hq111 => ?_)
                                    refine z_pop d_A_law_684 rfl ?_
                                    refine z_aload_n d_A_law_685 rfl ?_
                                    refine z_aload_n d_A_law_686 rfl ?_
                                    refine z_iload_n d_A_law_687 rfl ?_
                                    refine z_ic1 d_A_law_688 ?_
                                    refine z_iadd d_A_law_689 ?_
                                    refine z_sl d_A_law_690 (fun v112 => ?_)
                                    refine z_aload_n d_A_law_691 rfl ?_
                                    refine z_iload_n d_A_law_692 rfl ?_
                                    refine z_ic2 d_A_law_693 ?_
                                    refine z_iadd d_A_law_694 ?_
                                    refine z_sl d_A_law_695 (fun v113 => ?_)
                                    refine z_cVI (as := [qI v112, qI v113]) (st := []) (nl := 0) (ci := 10) d_A_law_696 lk_W_78 mk_M_ringOf rfl rfl rfl rfl rfl rfl (s_M_ringOf _ _ _) (fun q114 _ hq114 => ?_)
                                    refine z_pop d_A_law_699 rfl ?_
                                    refine z_goto (tgt := 1204) d_A_law_700 rfl ?_
                                    refine z_iinc (pls' := [some (qR 0), some (qR 1), some (qR 88), some (qI (w32 (x3 + 7)))]) d_A_law_1204 (by decide) rfl rfl rfl ?_
                                    refine z_goto (tgt := 18) d_A_law_1207 rfl ?_
                                    refine z_mask [true, true, true, true] ?_
                                    exact ih _ _
                                  · refine z_if (fun c115 => ?_) (fun c115 => ?_)
                                    · refine z_tabIn (tgt := 703) (v := 15) d_A_law_33 c115 (by decide) (by decide) rfl rfl ?_
                                      refine z_aload_n d_A_law_703 rfl ?_
                                      refine z_aload_n d_A_law_704 rfl ?_
                                      refine z_iload_n d_A_law_705 rfl ?_
                                      refine z_ic1 d_A_law_706 ?_
                                      refine z_iadd d_A_law_707 ?_
                                      refine z_sl d_A_law_708 (fun v116 => ?_)
                                      refine z_aload_n d_A_law_709 rfl ?_
                                      refine z_iload_n d_A_law_710 rfl ?_
                                      refine z_ic2 d_A_law_711 ?_
                                      refine z_iadd d_A_law_712 ?_
                                      refine z_sl d_A_law_713 (fun v117 => ?_)
                                      refine z_cVI (as := [qI v116, qI v117]) (st := []) (nl := 0) (ci := 9) d_A_law_714 lk_W_79 mk_X_hunger rfl rfl rfl rfl rfl rfl (s_X_hunger _ _ _) (fun q118 _ hq118 => ?_)
                                      refine z_pop d_A_law_717 rfl ?_
                                      refine z_aload_n d_A_law_718 rfl ?_
                                      refine z_aload_n d_A_law_719 rfl ?_
                                      refine z_iload_n d_A_law_720 rfl ?_
                                      refine z_ic1 d_A_law_721 ?_
                                      refine z_iadd d_A_law_722 ?_
                                      refine z_sl d_A_law_723 (fun v119 => ?_)
                                      refine z_aload_n d_A_law_724 rfl ?_
                                      refine z_iload_n d_A_law_725 rfl ?_
                                      refine z_ic2 d_A_law_726 ?_
                                      refine z_iadd d_A_law_727 ?_
                                      refine z_sl d_A_law_728 (fun v120 => ?_)
                                      refine z_cVI (as := [qI v119, qI v120]) (st := []) (nl := 0) (ci := 10) d_A_law_729 lk_W_82 mk_M_hunger rfl rfl rfl rfl rfl rfl (s_M_hunger _ _ _) (fun q121 _ hq121 => ?_)
                                      refine z_pop d_A_law_732 rfl ?_
                                      refine z_goto (tgt := 1204) d_A_law_733 rfl ?_
                                      refine z_iinc (pls' := [some (qR 0), some (qR 1), some (qR 88), some (qI (w32 (x3 + 7)))]) d_A_law_1204 (by decide) rfl rfl rfl ?_
                                      refine z_goto (tgt := 18) d_A_law_1207 rfl ?_
                                      refine z_mask [true, true, true, true] ?_
                                      exact ih _ _
                                    · refine z_if (fun c122 => ?_) (fun c122 => ?_)
                                      · refine z_tabIn (tgt := 736) (v := 16) d_A_law_33 c122 (by decide) (by decide) rfl rfl ?_
                                        refine z_aload_n d_A_law_736 rfl ?_
                                        refine z_aload_n d_A_law_737 rfl ?_
                                        refine z_iload_n d_A_law_738 rfl ?_
                                        refine z_ic1 d_A_law_739 ?_
                                        refine z_iadd d_A_law_740 ?_
                                        refine z_sl d_A_law_741 (fun v123 => ?_)
                                        refine z_aload_n d_A_law_742 rfl ?_
                                        refine z_iload_n d_A_law_743 rfl ?_
                                        refine z_ic2 d_A_law_744 ?_
                                        refine z_iadd d_A_law_745 ?_
                                        refine z_sl d_A_law_746 (fun v124 => ?_)
                                        refine z_cVI (as := [qI v123, qI v124]) (st := []) (nl := 0) (ci := 9) d_A_law_747 lk_W_83 mk_X_node rfl rfl rfl rfl rfl rfl (s_X_node _ _ _) (fun q125 _ hq125 => ?_)
                                        refine z_pop d_A_law_750 rfl ?_
                                        refine z_aload_n d_A_law_751 rfl ?_
                                        refine z_aload_n d_A_law_752 rfl ?_
                                        refine z_iload_n d_A_law_753 rfl ?_
                                        refine z_ic1 d_A_law_754 ?_
                                        refine z_iadd d_A_law_755 ?_
                                        refine z_sl d_A_law_756 (fun v126 => ?_)
                                        refine z_aload_n d_A_law_757 rfl ?_
                                        refine z_iload_n d_A_law_758 rfl ?_
                                        refine z_ic2 d_A_law_759 ?_
                                        refine z_iadd d_A_law_760 ?_
                                        refine z_sl d_A_law_761 (fun v127 => ?_)
                                        refine z_cVI (as := [qI v126, qI v127]) (st := []) (nl := 0) (ci := 10) d_A_law_762 lk_W_86 mk_M_node rfl rfl rfl rfl rfl rfl (s_M_node _ _ _) (fun q128 _ hq128 => ?_)
                                        refine z_pop d_A_law_765 rfl ?_
                                        refine z_goto (tgt := 1204) d_A_law_766 rfl ?_
                                        refine z_iinc (pls' := [some (qR 0), some (qR 1), some (qR 88), some (qI (w32 (x3 + 7)))]) d_A_law_1204 (by decide) rfl rfl rfl ?_
                                        refine z_goto (tgt := 18) d_A_law_1207 rfl ?_
                                        refine z_mask [true, true, true, true] ?_
                                        exact ih _ _
                                      · refine z_if (fun c129 => ?_) (fun c129 => ?_)
                                        · refine z_tabIn (tgt := 769) (v := 17) d_A_law_33 c129 (by decide) (by decide) rfl rfl ?_
                                          refine z_aload_n d_A_law_769 rfl ?_
                                          refine z_aload_n d_A_law_770 rfl ?_
                                          refine z_iload_n d_A_law_771 rfl ?_
                                          refine z_ic1 d_A_law_772 ?_
                                          refine z_iadd d_A_law_773 ?_
                                          refine z_sl d_A_law_774 (fun v130 => ?_)
                                          refine z_aload_n d_A_law_775 rfl ?_
                                          refine z_iload_n d_A_law_776 rfl ?_
                                          refine z_ic2 d_A_law_777 ?_
                                          refine z_iadd d_A_law_778 ?_
                                          refine z_sl d_A_law_779 (fun v131 => ?_)
                                          refine z_cVI (as := [qI v130, qI v131]) (st := []) (nl := 0) (ci := 9) d_A_law_780 lk_W_87 mk_X_move rfl rfl rfl rfl rfl rfl (s_X_move _ _ _) (fun q132 _ hq132 => ?_)
                                          refine z_pop d_A_law_783 rfl ?_
                                          refine z_aload_n d_A_law_784 rfl ?_
                                          refine z_aload_n d_A_law_785 rfl ?_
                                          refine z_iload_n d_A_law_786 rfl ?_
                                          refine z_ic1 d_A_law_787 ?_
                                          refine z_iadd d_A_law_788 ?_
                                          refine z_sl d_A_law_789 (fun v133 => ?_)
                                          refine z_aload_n d_A_law_790 rfl ?_
                                          refine z_iload_n d_A_law_791 rfl ?_
                                          refine z_ic2 d_A_law_792 ?_
                                          refine z_iadd d_A_law_793 ?_
                                          refine z_sl d_A_law_794 (fun v134 => ?_)
                                          refine z_cVI (as := [qI v133, qI v134]) (st := []) (nl := 0) (ci := 10) d_A_law_795 lk_W_90 mk_M_move rfl rfl rfl rfl rfl rfl (s_M_move _ _ _) (fun q135 _ hq135 => ?_)
                                          refine z_pop d_A_law_798 rfl ?_
                                          refine z_goto (tgt := 1204) d_A_law_799 rfl ?_
                                          refine z_iinc (pls' := [some (qR 0), some (qR 1), some (qR 88), some (qI (w32 (x3 + 7)))]) d_A_law_1204 (by decide) rfl rfl rfl ?_
                                          refine z_goto (tgt := 18) d_A_law_1207 rfl ?_
                                          refine z_mask [true, true, true, true] ?_
                                          exact ih _ _
                                        · refine z_if (fun c136 => ?_) (fun c136 => ?_)
                                          · refine z_tabIn (tgt := 802) (v := 18) d_A_law_33 c136 (by decide) (by decide) rfl rfl ?_
                                            refine z_aload_n d_A_law_802 rfl ?_
                                            refine z_aload_n d_A_law_803 rfl ?_
                                            refine z_iload_n d_A_law_804 rfl ?_
                                            refine z_ic1 d_A_law_805 ?_
                                            refine z_iadd d_A_law_806 ?_
                                            refine z_sl d_A_law_807 (fun v137 => ?_)
                                            refine z_aload_n d_A_law_808 rfl ?_
                                            refine z_iload_n d_A_law_809 rfl ?_
                                            refine z_ic2 d_A_law_810 ?_
                                            refine z_iadd d_A_law_811 ?_
                                            refine z_sl d_A_law_812 (fun v138 => ?_)
                                            refine z_cVI (as := [qI v137, qI v138]) (st := []) (nl := 0) (ci := 9) d_A_law_813 lk_W_91 mk_X_link rfl rfl rfl rfl rfl rfl (s_X_link _ _ _) (fun q139 _ hq139 => ?_)
                                            refine z_pop d_A_law_816 rfl ?_
                                            refine z_aload_n d_A_law_817 rfl ?_
                                            refine z_aload_n d_A_law_818 rfl ?_
                                            refine z_iload_n d_A_law_819 rfl ?_
                                            refine z_ic1 d_A_law_820 ?_
                                            refine z_iadd d_A_law_821 ?_
                                            refine z_sl d_A_law_822 (fun v140 => ?_)
                                            refine z_aload_n d_A_law_823 rfl ?_
                                            refine z_iload_n d_A_law_824 rfl ?_
                                            refine z_ic2 d_A_law_825 ?_
                                            refine z_iadd d_A_law_826 ?_
                                            refine z_sl d_A_law_827 (fun v141 => ?_)
                                            refine z_cVI (as := [qI v140, qI v141]) (st := []) (nl := 0) (ci := 10) d_A_law_828 lk_W_94 mk_M_link rfl rfl rfl rfl rfl rfl (s_M_link _ _ _) (fun q142 _ hq142 => ?_)
                                            refine z_pop d_A_law_831 rfl ?_
                                            refine z_goto (tgt := 1204) d_A_law_832 rfl ?_
                                            refine z_iinc (pls' := [some (qR 0), some (qR 1), some (qR 88), some (qI (w32 (x3 + 7)))]) d_A_law_1204 (by decide) rfl rfl rfl ?_
                                            refine z_goto (tgt := 18) d_A_law_1207 rfl ?_
                                            refine z_mask [true, true, true, true] ?_
                                            exact ih _ _
                                          · refine z_if (fun c143 => ?_) (fun c143 => ?_)
                                            · refine z_tabIn (tgt := 835) (v := 19) d_A_law_33 c143 (by decide) (by decide) rfl rfl ?_
                                              refine z_aload_n d_A_law_835 rfl ?_
                                              refine z_aload_n d_A_law_836 rfl ?_
                                              refine z_iload_n d_A_law_837 rfl ?_
                                              refine z_ic1 d_A_law_838 ?_
                                              refine z_iadd d_A_law_839 ?_
                                              refine z_sl d_A_law_840 (fun v144 => ?_)
                                              refine z_aload_n d_A_law_841 rfl ?_
                                              refine z_iload_n d_A_law_842 rfl ?_
                                              refine z_ic2 d_A_law_843 ?_
                                              refine z_iadd d_A_law_844 ?_
                                              refine z_sl d_A_law_845 (fun v145 => ?_)
                                              refine z_cVI (as := [qI v144, qI v145]) (st := []) (nl := 0) (ci := 9) d_A_law_846 lk_W_95 mk_X_trace rfl rfl rfl rfl rfl rfl (s_X_trace _ _ _) (fun q146 _ hq146 => ?_)
                                              refine z_pop d_A_law_849 rfl ?_
                                              refine z_aload_n d_A_law_850 rfl ?_
                                              refine z_aload_n d_A_law_851 rfl ?_
                                              refine z_iload_n d_A_law_852 rfl ?_
                                              refine z_ic1 d_A_law_853 ?_
                                              refine z_iadd d_A_law_854 ?_
                                              refine z_sl d_A_law_855 (fun v147 => ?_)
                                              refine z_aload_n d_A_law_856 rfl ?_
                                              refine z_iload_n d_A_law_857 rfl ?_
                                              refine z_ic2 d_A_law_858 ?_
                                              refine z_iadd d_A_law_859 ?_
                                              refine z_sl d_A_law_860 (fun v148 => ?_)
                                              refine z_cVI (as := [qI v147, qI v148]) (st := []) (nl := 0) (ci := 10) d_A_law_861 lk_W_98 mk_M_trace rfl rfl rfl rfl rfl rfl (s_M_trace _ _ _) (fun q149 _ hq149 => ?_)
                                              refine z_pop d_A_law_864 rfl ?_
                                              refine z_goto (tgt := 1204) d_A_law_865 rfl ?_
                                              refine z_iinc (pls' := [some (qR 0), some (qR 1), some (qR 88), some (qI (w32 (x3 + 7)))]) d_A_law_1204 (by decide) rfl rfl rfl ?_
                                              refine z_goto (tgt := 18) d_A_law_1207 rfl ?_
                                              refine z_mask [true, true, true, true] ?_
                                              exact ih _ _
                                            · refine z_if (fun c150 => ?_) (fun c150 => ?_)
                                              · refine z_tabIn (tgt := 868) (v := 20) d_A_law_33 c150 (by decide) (by decide) rfl rfl ?_
                                                refine z_aload_n d_A_law_868 rfl ?_
                                                refine z_aload_n d_A_law_869 rfl ?_
                                                refine z_iload_n d_A_law_870 rfl ?_
                                                refine z_ic1 d_A_law_871 ?_
                                                refine z_iadd d_A_law_872 ?_
                                                refine z_sl d_A_law_873 (fun v151 => ?_)
                                                refine z_aload_n d_A_law_874 rfl ?_
                                                refine z_iload_n d_A_law_875 rfl ?_
                                                refine z_ic2 d_A_law_876 ?_
                                                refine z_iadd d_A_law_877 ?_
                                                refine z_sl d_A_law_878 (fun v152 => ?_)
                                                refine z_aload_n d_A_law_879 rfl ?_
                                                refine z_iload_n d_A_law_880 rfl ?_
                                                refine z_ic3 d_A_law_881 ?_
                                                refine z_iadd d_A_law_882 ?_
                                                refine z_sl d_A_law_883 (fun v153 => ?_)
                                                refine z_cVI (as := [qI v151, qI v152, qI v153]) (st := []) (nl := 0) (ci := 9) d_A_law_884 lk_W_99 mk_X_pair rfl rfl rfl rfl rfl rfl (s_X_pair _ _ _ _) (fun q154 _ hq154 => ?_)
                                                refine z_pop d_A_law_887 rfl ?_
                                                refine z_aload_n d_A_law_888 rfl ?_
                                                refine z_aload_n d_A_law_889 rfl ?_
                                                refine z_iload_n d_A_law_890 rfl ?_
                                                refine z_ic1 d_A_law_891 ?_
                                                refine z_iadd d_A_law_892 ?_
                                                refine z_sl d_A_law_893 (fun v155 => ?_)
                                                refine z_aload_n d_A_law_894 rfl ?_
                                                refine z_iload_n d_A_law_895 rfl ?_
                                                refine z_ic2 d_A_law_896 ?_
                                                refine z_iadd d_A_law_897 ?_
                                                refine z_sl d_A_law_898 (fun v156 => ?_)
                                                refine z_aload_n d_A_law_899 rfl ?_
                                                refine z_iload_n d_A_law_900 rfl ?_
                                                refine z_ic3 d_A_law_901 ?_
                                                refine z_iadd d_A_law_902 ?_
                                                refine z_sl d_A_law_903 (fun v157 => ?_)
                                                refine z_cVI (as := [qI v155, qI v156, qI v157]) (st := []) (nl := 4) (ci := 10) d_A_law_904 lk_W_102 mk_M_pair rfl rfl rfl rfl rfl rfl (s_M_pair _ _ _ _) (fun q158 _ hq158 => ?_)
                                                refine z_pop d_A_law_907 rfl ?_
                                                refine z_goto (tgt := 1204) d_A_law_908 rfl ?_
                                                refine z_iinc (pls' := [some (qR 0), some (qR 1), some (qR 88), some (qI (w32 (x3 + 7)))]) d_A_law_1204 (by decide) rfl rfl rfl ?_
                                                refine z_goto (tgt := 18) d_A_law_1207 rfl ?_
                                                refine z_mask [true, true, true, true] ?_
                                                exact ih _ _
                                              · refine z_if (fun c159 => ?_) (fun c159 => ?_)
                                                · refine z_tabIn (tgt := 911) (v := 21) d_A_law_33 c159 (by decide) (by decide) rfl rfl ?_
                                                  refine z_aload_n d_A_law_911 rfl ?_
                                                  refine z_aload_n d_A_law_912 rfl ?_
                                                  refine z_iload_n d_A_law_913 rfl ?_
                                                  refine z_ic1 d_A_law_914 ?_
                                                  refine z_iadd d_A_law_915 ?_
                                                  refine z_sl d_A_law_916 (fun v160 => ?_)
                                                  refine z_aload_n d_A_law_917 rfl ?_
                                                  refine z_iload_n d_A_law_918 rfl ?_
                                                  refine z_ic2 d_A_law_919 ?_
                                                  refine z_iadd d_A_law_920 ?_
                                                  refine z_sl d_A_law_921 (fun v161 => ?_)
                                                  refine z_cVI (as := [qI v160, qI v161]) (st := []) (nl := 0) (ci := 9) d_A_law_922 lk_W_103 mk_X_late rfl rfl rfl rfl rfl rfl (s_X_late _ _ _) (fun q162 _ hq162 => ?_)
                                                  refine z_pop d_A_law_925 rfl ?_
                                                  refine z_aload_n d_A_law_926 rfl ?_
                                                  refine z_aload_n d_A_law_927 rfl ?_
                                                  refine z_iload_n d_A_law_928 rfl ?_
                                                  refine z_ic1 d_A_law_929 ?_
                                                  refine z_iadd d_A_law_930 ?_
                                                  refine z_sl d_A_law_931 (fun v163 => ?_)
                                                  refine z_aload_n d_A_law_932 rfl ?_
                                                  refine z_iload_n d_A_law_933 rfl ?_
                                                  refine z_ic2 d_A_law_934 ?_
                                                  refine z_iadd d_A_law_935 ?_
                                                  refine z_sl d_A_law_936 (fun v164 => ?_)
                                                  refine z_cVI (as := [qI v163, qI v164]) (st := []) (nl := 2) (ci := 10) d_A_law_937 lk_W_106 mk_M_late rfl rfl rfl rfl rfl rfl (s_M_late _ _ _) (fun q165 _ hq165 => ?_)
                                                  refine z_pop d_A_law_940 rfl ?_
                                                  refine z_goto (tgt := 1204) d_A_law_941 rfl ?_
                                                  refine z_iinc (pls' := [some (qR 0), some (qR 1), some (qR 88), some (qI (w32 (x3 + 7)))]) d_A_law_1204 (by decide) rfl rfl rfl ?_
                                                  refine z_goto (tgt := 18) d_A_law_1207 rfl ?_
                                                  refine z_mask [true, true, true, true] ?_
                                                  exact ih _ _
                                                · refine z_if (fun c166 => ?_) (fun c166 => ?_)
                                                  · refine z_tabIn (tgt := 944) (v := 22) d_A_law_33 c166 (by decide) (by decide) rfl rfl ?_
                                                    refine z_aload_n d_A_law_944 rfl ?_
                                                    refine z_aload_n d_A_law_945 rfl ?_
                                                    refine z_iload_n d_A_law_946 rfl ?_
                                                    refine z_ic1 d_A_law_947 ?_
                                                    refine z_iadd d_A_law_948 ?_
                                                    refine z_sl d_A_law_949 (fun v167 => ?_)
                                                    refine z_aload_n d_A_law_950 rfl ?_
                                                    refine z_iload_n d_A_law_951 rfl ?_
                                                    refine z_ic2 d_A_law_952 ?_
                                                    refine z_iadd d_A_law_953 ?_
                                                    refine z_sl d_A_law_954 (fun v168 => ?_)
                                                    refine z_cVI (as := [qI v167, qI v168]) (st := []) (nl := 1) (ci := 9) d_A_law_955 lk_W_107 mk_X_lates rfl rfl rfl rfl rfl rfl (s_X_lates _ _ _) (fun q169 _ hq169 => ?_)
                                                    refine z_pop d_A_law_958 rfl ?_
                                                    refine z_aload_n d_A_law_959 rfl ?_
                                                    refine z_aload_n d_A_law_960 rfl ?_
                                                    refine z_iload_n d_A_law_961 rfl ?_
                                                    refine z_ic1 d_A_law_962 ?_
                                                    refine z_iadd d_A_law_963 ?_
                                                    refine z_sl d_A_law_964 (fun v170 => ?_)
                                                    refine z_aload_n d_A_law_965 rfl ?_
                                                    refine z_iload_n d_A_law_966 rfl ?_
                                                    refine z_ic2 d_A_law_967 ?_
                                                    refine z_iadd d_A_law_968 ?_
                                                    refine z_sl d_A_law_969 (fun v171 => ?_)
                                                    refine z_cVI (as := [qI v170, qI v171]) (st := []) (nl := 2) (ci := 10) d_A_law_970 lk_W_110 mk_M_lates rfl rfl rfl rfl rfl rfl (s_M_lates _ _ _) (fun q172 _ hq172 => ?_)
                                                    refine z_pop d_A_law_973 rfl ?_
                                                    refine z_goto (tgt := 1204) d_A_law_974 rfl ?_
                                                    refine z_iinc (pls' := [some (qR 0), some (qR 1), some (qR 88), some (qI (w32 (x3 + 7)))]) d_A_law_1204 (by decide) rfl rfl rfl ?_
                                                    refine z_goto (tgt := 18) d_A_law_1207 rfl ?_
                                                    refine z_mask [true, true, true, true] ?_
                                                    exact ih _ _
                                                  · refine z_if (fun c173 => ?_) (fun c173 => ?_)
                                                    · refine z_tabIn (tgt := 977) (v := 23) d_A_law_33 c173 (by decide) (by decide) rfl rfl ?_
                                                      refine z_aload_n d_A_law_977 rfl ?_
                                                      refine z_aload_n d_A_law_978 rfl ?_
                                                      refine z_iload_n d_A_law_979 rfl ?_
                                                      refine z_ic1 d_A_law_980 ?_
                                                      refine z_iadd d_A_law_981 ?_
                                                      refine z_sl d_A_law_982 (fun v174 => ?_)
                                                      refine z_cVI (as := [qI v174]) (st := []) (nl := 1) (ci := 9) d_A_law_983 lk_W_111 mk_X_goesOn rfl rfl rfl rfl rfl rfl (s_X_goesOn _ _) (fun q175 _ hq175 => ?_)
                                                      refine z_pop d_A_law_986 rfl ?_
                                                      refine z_aload_n d_A_law_987 rfl ?_
                                                      refine z_aload_n d_A_law_988 rfl ?_
                                                      refine z_iload_n d_A_law_989 rfl ?_
                                                      refine z_ic1 d_A_law_990 ?_
                                                      refine z_iadd d_A_law_991 ?_
                                                      refine z_sl d_A_law_992 (fun v176 => ?_)
                                                      refine z_cVI (as := [qI v176]) (st := []) (nl := 2) (ci := 10) d_A_law_993 lk_W_114 mk_M_goesOn rfl rfl rfl rfl rfl rfl (s_M_goesOn _ _) (fun q177 _ hq177 => ?_)
                                                      refine z_pop d_A_law_996 rfl ?_
                                                      refine z_goto (tgt := 1204) d_A_law_997 rfl ?_
                                                      refine z_iinc (pls' := [some (qR 0), some (qR 1), some (qR 88), some (qI (w32 (x3 + 7)))]) d_A_law_1204 (by decide) rfl rfl rfl ?_
                                                      refine z_goto (tgt := 18) d_A_law_1207 rfl ?_
                                                      refine z_mask [true, true, true, true] ?_
                                                      exact ih _ _
                                                    · refine z_if (fun c178 => ?_) (fun c178 => ?_)
                                                      · refine z_tabIn (tgt := 1000) (v := 24) d_A_law_33 c178 (by decide) (by decide) rfl rfl ?_
                                                        refine z_aload_n d_A_law_1000 rfl ?_
                                                        refine z_cVI (as := []) (st := []) (nl := 0) (ci := 9) d_A_law_1001 lk_W_115 mk_X_stuck rfl rfl rfl rfl rfl rfl (s_X_stuck _) (fun q179 _ hq179 => ?_)
                                                        refine z_pop d_A_law_1004 rfl ?_
                                                        refine z_aload_n d_A_law_1005 rfl ?_
                                                        refine z_cVI (as := []) (st := []) (nl := 3) (ci := 10) d_A_law_1006 lk_W_119 mk_M_stuck rfl rfl rfl rfl rfl rfl (s_M_stuck _) (fun q180 _ hq180 => ?_)
                                                        refine z_pop d_A_law_1009 rfl ?_
                                                        refine z_goto (tgt := 1204) d_A_law_1010 rfl ?_
                                                        refine z_iinc (pls' := [some (qR 0), some (qR 1), some (qR 88), some (qI (w32 (x3 + 7)))]) d_A_law_1204 (by decide) rfl rfl rfl ?_
                                                        refine z_goto (tgt := 18) d_A_law_1207 rfl ?_
                                                        refine z_mask [true, true, true, true] ?_
                                                        exact ih _ _
                                                      · refine z_if (fun c181 => ?_) (fun c181 => ?_)
                                                        · refine z_tabIn (tgt := 1013) (v := 25) d_A_law_33 c181 (by decide) (by decide) rfl rfl ?_
                                                          refine z_aload_n d_A_law_1013 rfl ?_
                                                          refine z_cVI (as := []) (st := []) (nl := 0) (ci := 9) d_A_law_1014 lk_W_120 mk_X_dead rfl rfl rfl rfl rfl rfl (s_X_dead _) (fun q182 _ hq182 => ?_)
                                                          refine z_pop d_A_law_1017 rfl ?_
                                                          refine z_aload_n d_A_law_1018 rfl ?_
                                                          refine z_cVI (as := []) (st := []) (nl := 0) (ci := 10) d_A_law_1019 lk_W_123 mk_M_dead rfl rfl rfl rfl rfl rfl (s_M_dead _) (fun q183 _ hq183 => ?_)
                                                          refine z_pop d_A_law_1022 rfl ?_
                                                          refine z_goto (tgt := 1204) d_A_law_1023 rfl ?_
                                                          refine z_iinc (pls' := [some (qR 0), some (qR 1), some (qR 88), some (qI (w32 (x3 + 7)))]) d_A_law_1204 (by decide) rfl rfl rfl ?_
                                                          refine z_goto (tgt := 18) d_A_law_1207 rfl ?_
                                                          refine z_mask [true, true, true, true] ?_
                                                          exact ih _ _
                                                        · refine z_if (fun c184 => ?_) (fun c184 => ?_)
                                                          · refine z_tabIn (tgt := 1026) (v := 26) d_A_law_33 c184 (by decide) (by decide) rfl rfl ?_
                                                            refine z_aload_n d_A_law_1026 rfl ?_
                                                            refine z_cVI (as := []) (st := []) (nl := 0) (ci := 9) d_A_law_1027 lk_W_124 mk_X_through rfl rfl rfl rfl rfl rfl (s_X_through _) (fun q185 _ hq185 => ?_)
                                                            refine z_pop d_A_law_1030 rfl ?_
                                                            refine z_aload_n d_A_law_1031 rfl ?_
                                                            refine z_cVI (as := []) (st := []) (nl := 2) (ci := 10) d_A_law_1032 lk_W_127 mk_M_through rfl rfl rfl rfl rfl rfl (s_M_through _) (fun q186 _ hq186 => ?_)
                                                            refine z_pop d_A_law_1035 rfl ?_
                                                            refine z_goto (tgt := 1204) d_A_law_1036 rfl ?_
                                                            refine z_iinc (pls' := [some (qR 0), some (qR 1), some (qR 88), some (qI (w32 (x3 + 7)))]) d_A_law_1204 (by decide) rfl rfl rfl ?_
                                                            refine z_goto (tgt := 18) d_A_law_1207 rfl ?_
                                                            refine z_mask [true, true, true, true] ?_
                                                            exact ih _ _
                                                          · refine z_if (fun c187 => ?_) (fun c187 => ?_)
                                                            · refine z_tabIn (tgt := 1039) (v := 27) d_A_law_33 c187 (by decide) (by decide) rfl rfl ?_
                                                              refine z_aload_n d_A_law_1039 rfl ?_
                                                              refine z_aload_n d_A_law_1040 rfl ?_
                                                              refine z_iload_n d_A_law_1041 rfl ?_
                                                              refine z_ic1 d_A_law_1042 ?_
                                                              refine z_iadd d_A_law_1043 ?_
                                                              refine z_sl d_A_law_1044 (fun v188 => ?_)
                                                              refine z_aload_n d_A_law_1045 rfl ?_
                                                              refine z_iload_n d_A_law_1046 rfl ?_
                                                              refine z_ic2 d_A_law_1047 ?_
                                                              refine z_iadd d_A_law_1048 ?_
                                                              refine z_sl d_A_law_1049 (fun v189 => ?_)
                                                              refine z_cVI (as := [qI v188, qI v189]) (st := []) (nl := 1) (ci := 9) d_A_law_1050 lk_W_128 mk_X_arrives rfl rfl rfl rfl rfl rfl (s_X_arrives _ _ _) (fun q190 _ hq190 => ?_)
                                                              refine z_pop d_A_law_1053 rfl ?_
                                                              refine z_aload_n d_A_law_1054 rfl ?_
                                                              refine z_aload_n d_A_law_1055 rfl ?_
                                                              refine z_iload_n d_A_law_1056 rfl ?_
                                                              refine z_ic1 d_A_law_1057 ?_
                                                              refine z_iadd d_A_law_1058 ?_
                                                              refine z_sl d_A_law_1059 (fun v191 => ?_)
                                                              refine z_aload_n d_A_law_1060 rfl ?_
                                                              refine z_iload_n d_A_law_1061 rfl ?_
                                                              refine z_ic2 d_A_law_1062 ?_
                                                              refine z_iadd d_A_law_1063 ?_
                                                              refine z_sl d_A_law_1064 (fun v192 => ?_)
                                                              refine z_cVI (as := [qI v191, qI v192]) (st := []) (nl := 3) (ci := 10) d_A_law_1065 lk_W_131 mk_M_arrives rfl rfl rfl rfl rfl rfl (s_M_arrives _ _ _) (fun q193 _ hq193 => ?_)
                                                              refine z_pop d_A_law_1068 rfl ?_
                                                              refine z_goto (tgt := 1204) d_A_law_1069 rfl ?_
                                                              refine z_iinc (pls' := [some (qR 0), some (qR 1), some (qR 88), some (qI (w32 (x3 + 7)))]) d_A_law_1204 (by decide) rfl rfl rfl ?_
                                                              refine z_goto (tgt := 18) d_A_law_1207 rfl ?_
                                                              refine z_mask [true, true, true, true] ?_
                                                              exact ih _ _
                                                            · refine z_if (fun c194 => ?_) (fun c194 => ?_)
                                                              · refine z_tabIn (tgt := 1072) (v := 28) d_A_law_33 c194 (by decide) (by decide) rfl rfl ?_
                                                                refine z_aload_n d_A_law_1072 rfl ?_
                                                                refine z_aload_n d_A_law_1073 rfl ?_
                                                                refine z_iload_n d_A_law_1074 rfl ?_
                                                                refine z_ic1 d_A_law_1075 ?_
                                                                refine z_iadd d_A_law_1076 ?_
                                                                refine z_sl d_A_law_1077 (fun v195 => ?_)
                                                                refine z_aload_n d_A_law_1078 rfl ?_
                                                                refine z_iload_n d_A_law_1079 rfl ?_
                                                                refine z_ic2 d_A_law_1080 ?_
                                                                refine z_iadd d_A_law_1081 ?_
                                                                refine z_sl d_A_law_1082 (fun v196 => ?_)
                                                                refine z_cVI (as := [qI v195, qI v196]) (st := []) (nl := 0) (ci := 9) d_A_law_1083 lk_W_132 mk_X_enters rfl rfl rfl rfl rfl rfl (s_X_enters _ _ _) (fun q197 _ hq197 => ?_)
                                                                refine z_aload_n d_A_law_1086 rfl ?_
                                                                refine z_aload_n d_A_law_1087 rfl ?_
                                                                refine z_iload_n d_A_law_1088 rfl ?_
                                                                refine z_ic1 d_A_law_1089 ?_
                                                                refine z_iadd d_A_law_1090 ?_
                                                                refine z_sl d_A_law_1091 (fun v198 => ?_)
                                                                refine z_aload_n d_A_law_1092 rfl ?_
                                                                refine z_iload_n d_A_law_1093 rfl ?_
                                                                refine z_ic2 d_A_law_1094 ?_
                                                                refine z_iadd d_A_law_1095 ?_
                                                                refine z_sl d_A_law_1096 (fun v199 => ?_)
                                                                refine z_cVI (as := [qI v198, qI v199]) (st := [qI q197.1]) (nl := 0) (ci := 10) d_A_law_1097 lk_W_135 mk_M_enters rfl rfl rfl rfl rfl rfl (s_M_enters _ _ _) (fun q200 _ hq200 => ?_)
                                                                refine z_icmp_eq (tgt := 1204) d_A_law_1100 rfl (fun c201 => ?_) (fun c201 => ?_)
                                                                · refine z_iinc (pls' := [some (qR 0), some (qR 1), some (qR 88), some (qI (w32 (x3 + 7)))]) d_A_law_1204 (by decide) rfl rfl rfl ?_
                                                                  refine z_goto (tgt := 18) d_A_law_1207 rfl ?_
                                                                  refine z_mask [true, true, true, true] ?_
                                                                  exact ih _ _
                                                                · refine z_ic0 d_A_law_1103 ?_
                                                                  exact z_zret d_A_law_1104 rfl rfl (Or.inl rfl)
                                                              · refine z_if (fun c202 => ?_) (fun c202 => ?_)
                                                                · refine z_tabIn (tgt := 1105) (v := 29) d_A_law_33 c202 (by decide) (by decide) rfl rfl ?_
                                                                  refine z_aload_n d_A_law_1105 rfl ?_
                                                                  refine z_aload_n d_A_law_1106 rfl ?_
                                                                  refine z_iload_n d_A_law_1107 rfl ?_
                                                                  refine z_ic1 d_A_law_1108 ?_
                                                                  refine z_iadd d_A_law_1109 ?_
                                                                  refine z_sl d_A_law_1110 (fun v203 => ?_)
                                                                  refine z_cVI (as := [qI v203]) (st := []) (nl := 0) (ci := 9) d_A_law_1111 lk_W_136 mk_X_schedules rfl rfl rfl rfl rfl rfl (s_X_schedules _ _) (fun q204 _ hq204 => ?_)
                                                                  refine z_pop d_A_law_1114 rfl ?_
                                                                  refine z_aload_n d_A_law_1115 rfl ?_
                                                                  refine z_aload_n d_A_law_1116 rfl ?_
                                                                  refine z_iload_n d_A_law_1117 rfl ?_
                                                                  refine z_ic1 d_A_law_1118 ?_
                                                                  refine z_iadd d_A_law_1119 ?_
                                                                  refine z_sl d_A_law_1120 (fun v205 => ?_)
                                                                  refine z_cVI (as := [qI v205]) (st := []) (nl := 1) (ci := 10) d_A_law_1121 lk_W_139 mk_M_schedules rfl rfl rfl rfl rfl rfl (s_M_schedules _ _) (fun q206 _ hq206 => ?_)
                                                                  refine z_pop d_A_law_1124 rfl ?_
                                                                  refine z_goto (tgt := 1204) d_A_law_1125 rfl ?_
                                                                  refine z_iinc (pls' := [some (qR 0), some (qR 1), some (qR 88), some (qI (w32 (x3 + 7)))]) d_A_law_1204 (by decide) rfl rfl rfl ?_
                                                                  refine z_goto (tgt := 18) d_A_law_1207 rfl ?_
                                                                  refine z_mask [true, true, true, true] ?_
                                                                  exact ih _ _
                                                                · refine z_if (fun c207 => ?_) (fun c207 => ?_)
                                                                  · refine z_tabIn (tgt := 1128) (v := 30) d_A_law_33 c207 (by decide) (by decide) rfl rfl ?_
                                                                    refine z_aload_n d_A_law_1128 rfl ?_
                                                                    refine z_aload_n d_A_law_1129 rfl ?_
                                                                    refine z_iload_n d_A_law_1130 rfl ?_
                                                                    refine z_ic1 d_A_law_1131 ?_
                                                                    refine z_iadd d_A_law_1132 ?_
                                                                    refine z_sl d_A_law_1133 (fun v208 => ?_)
                                                                    refine z_aload_n d_A_law_1134 rfl ?_
                                                                    refine z_iload_n d_A_law_1135 rfl ?_
                                                                    refine z_ic2 d_A_law_1136 ?_
                                                                    refine z_iadd d_A_law_1137 ?_
                                                                    refine z_sl d_A_law_1138 (fun v209 => ?_)
                                                                    refine z_aload_n d_A_law_1139 rfl ?_
                                                                    refine z_iload_n d_A_law_1140 rfl ?_
                                                                    refine z_ic3 d_A_law_1141 ?_
                                                                    refine z_iadd d_A_law_1142 ?_
                                                                    refine z_sl d_A_law_1143 (fun v210 => ?_)
                                                                    refine z_aload_n d_A_law_1144 rfl ?_
                                                                    refine z_iload_n d_A_law_1145 rfl ?_
                                                                    refine z_ic4 d_A_law_1146 ?_
                                                                    refine z_iadd d_A_law_1147 ?_
                                                                    refine z_sl d_A_law_1148 (fun v211 => ?_)
                                                                    refine z_cVI (as := [qI v208, qI v209, qI v210, qI v211]) (st := []) (nl := 0) (ci := 9) d_A_law_1149 lk_W_140 mk_X_alone rfl rfl rfl rfl rfl rfl (s_X_alone _ _ _ _ _) (fun q212 _ hq212 => ?_)
                                                                    refine z_pop d_A_law_1152 rfl ?_
                                                                    refine z_aload_n d_A_law_1153 rfl ?_
                                                                    refine z_aload_n d_A_law_1154 rfl ?_
                                                                    refine z_iload_n d_A_law_1155 rfl ?_
                                                                    refine z_ic1 d_A_law_1156 ?_
                                                                    refine z_iadd d_A_law_1157 ?_
                                                                    refine z_sl d_A_law_1158 (fun v213 => ?_)
                                                                    refine z_aload_n d_A_law_1159 rfl ?_
                                                                    refine z_iload_n d_A_law_1160 rfl ?_
                                                                    refine z_ic2 d_A_law_1161 ?_
                                                                    refine z_iadd d_A_law_1162 ?_
                                                                    refine z_sl d_A_law_1163 (fun v214 => ?_)
                                                                    refine z_aload_n d_A_law_1164 rfl ?_
                                                                    refine z_iload_n d_A_law_1165 rfl ?_
                                                                    refine z_ic3 d_A_law_1166 ?_
                                                                    refine z_iadd d_A_law_1167 ?_
                                                                    refine z_sl d_A_law_1168 (fun v215 => ?_)
                                                                    refine z_aload_n d_A_law_1169 rfl ?_
                                                                    refine z_iload_n d_A_law_1170 rfl ?_
                                                                    refine z_ic4 d_A_law_1171 ?_
                                                                    refine z_iadd d_A_law_1172 ?_
                                                                    refine z_sl d_A_law_1173 (fun v216 => ?_)
                                                                    refine z_cVI (as := [qI v213, qI v214, qI v215, qI v216]) (st := []) (nl := 1) (ci := 10) d_A_law_1174 lk_W_143 mk_M_alone rfl rfl rfl rfl rfl rfl (s_M_alone _ _ _ _ _) (fun q217 _ hq217 => ?_)
                                                                    refine z_pop d_A_law_1177 rfl ?_
                                                                    refine z_goto (tgt := 1204) d_A_law_1178 rfl ?_
                                                                    refine z_iinc (pls' := [some (qR 0), some (qR 1), some (qR 88), some (qI (w32 (x3 + 7)))]) d_A_law_1204 (by decide) rfl rfl rfl ?_
                                                                    refine z_goto (tgt := 18) d_A_law_1207 rfl ?_
                                                                    refine z_mask [true, true, true, true] ?_
                                                                    exact ih _ _
                                                                  · refine z_if (fun c218 => ?_) (fun c218 => ?_)
                                                                    · refine z_tabIn (tgt := 1181) (v := 31) d_A_law_33 c218 (by decide) (by decide) rfl rfl ?_
                                                                      refine z_aload_n d_A_law_1181 rfl ?_
                                                                      refine z_aload_n d_A_law_1182 rfl ?_
                                                                      refine z_iload_n d_A_law_1183 rfl ?_
                                                                      refine z_ic1 d_A_law_1184 ?_
                                                                      refine z_iadd d_A_law_1185 ?_
                                                                      refine z_sl d_A_law_1186 (fun v219 => ?_)
                                                                      refine z_cVI (as := [qI v219]) (st := []) (nl := 0) (ci := 9) d_A_law_1187 lk_W_144 mk_X_look rfl rfl rfl rfl rfl rfl (s_X_look _ _) (fun q220 _ hq220 => ?_)
                                                                      refine z_pop d_A_law_1190 rfl ?_
                                                                      refine z_aload_n d_A_law_1191 rfl ?_
                                                                      refine z_aload_n d_A_law_1192 rfl ?_
                                                                      refine z_iload_n d_A_law_1193 rfl ?_
                                                                      refine z_ic1 d_A_law_1194 ?_
                                                                      refine z_iadd d_A_law_1195 ?_
                                                                      refine z_sl d_A_law_1196 (fun v221 => ?_)
                                                                      refine z_cVI (as := [qI v221]) (st := []) (nl := 0) (ci := 10) d_A_law_1197 lk_W_147 mk_M_look rfl rfl rfl rfl rfl rfl (s_M_look _ _) (fun q222 _ hq222 => ?_)
                                                                      refine z_pop d_A_law_1200 rfl ?_
                                                                      refine z_goto (tgt := 1204) d_A_law_1201 rfl ?_
                                                                      refine z_iinc (pls' := [some (qR 0), some (qR 1), some (qR 88), some (qI (w32 (x3 + 7)))]) d_A_law_1204 (by decide) rfl rfl rfl ?_
                                                                      refine z_goto (tgt := 18) d_A_law_1207 rfl ?_
                                                                      refine z_mask [true, true, true, true] ?_
                                                                      exact ih _ _
                                                                    · refine z_tabOut (tgt := 1204) d_A_law_33 (by omega) rfl ?_
                                                                      refine z_iinc (pls' := [some (qR 0), some (qR 1), some (qR 88), some (qI (w32 (x3 + 7)))]) d_A_law_1204 (by decide) rfl rfl rfl ?_
                                                                      refine z_goto (tgt := 18) d_A_law_1207 rfl ?_
                                                                      refine z_mask [true, true, true, true] ?_
                                                                      exact ih _ _
    · refine z_ic1 d_A_law_1210 ?_
      exact z_zret d_A_law_1211 rfl rfl (Or.inr rfl)
def f_A_law (w : qMem) : Option (Int × qMem) :=
  qnw w 1 fun w223 =>
  (f_X_init w223).bind fun q224 =>
  qnw q224 88 fun w225 =>
  (f_M_init w225).bind fun q226 =>
  f_A_law_18 qFU 0 q226
set_option maxRecDepth 8000 in
theorem s_A_law (w : qMem) : qSim κI 0 100 m_A_law 0 [] [some (qR 0), none, none, none] w (f_A_law w) := by
  unfold f_A_law
  refine z_nw (ci := 9) (o := 1) d_A_law_0 rfl cl_W_7 ist_X ini_X rfl (by decide) (fun w223 => ?_)
  refine z_dup d_A_law_3 rfl ?_
  refine z_cIV (as := []) (st := [qR 1]) (nl := 0) d_A_law_4 lk_W_9 mk_X_init rfl rfl (by decide) rfl rfl rfl (s_X_init _) (fun q224 _ => ?_)
  refine z_astore_n (pls' := [some (qR 0), some (qR 1), none, none]) d_A_law_7 (by decide) rfl rfl ?_
  refine z_nw (ci := 10) (o := 88) d_A_law_8 rfl cl_W_10 ist_M ini_M rfl (by decide) (fun w225 => ?_)
  refine z_dup d_A_law_11 rfl ?_
  refine z_cIV (as := []) (st := [qR 88]) (nl := 0) d_A_law_12 lk_W_12 mk_M_init rfl rfl (by decide) rfl rfl rfl (s_M_init _) (fun q226 _ => ?_)
  refine z_astore_n (pls' := [some (qR 0), some (qR 1), some (qR 88), none]) d_A_law_15 (by decide) rfl rfl ?_
  refine z_ic0 d_A_law_16 ?_
  refine z_istore_n (pls' := [some (qR 0), some (qR 1), some (qR 88), some (qI 0)]) d_A_law_17 (by decide) rfl rfl ?_
  refine z_mask [true, true, true, true] ?_
  exact s_A_law_18 _ _ _
