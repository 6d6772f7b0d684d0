section KLC
variable {p : Program} {e : Env} {s : State} {m : MethodId} {below : List Frame} {meth : Method} {c : Code} {l : Launch} {D : va_G} {cI cB cT : ClassId} {ad1 ad2 : Nat → Nat} {b : Nat} {L : Nat} {xs : Nat → Int32}
variable {u v : kSt} {k : Nat}
/-- call 0: spawn -/
theorem lc_0 (h : LOk p e s m below meth c l D cI cB cT ad1 ad2 b L xs) (hk : 5 * k + 5 ≤ L) (hL : L ≤ 2560) (hR : Rel (20 * k + 1) k v u) (hE : ∀ u' v', Rel (20 * (k + 1) + 1) (k + 1) v' u' → LA p e s m below meth c l D cI cB cT ad1 ad2 b 846 (nI (5 * k)) [] u' v') : LA p e s m below meth c l D cI cB cT ad1 ad2 b 128 (nI (5 * k)) [] u v := by
  refine la_x h d_L_law_128 ?_
  refine la_arg (n := 5 * k) (j := 1) h d_L_law_129 d_L_law_130 d_L_law_131 d_L_law_132 d_L_law_133 (by decide) (by omega) (by omega) ?_
  refine la_arg (n := 5 * k) (j := 2) h d_L_law_134 d_L_law_135 d_L_law_136 d_L_law_137 d_L_law_138 (by decide) (by omega) (by omega) ?_
  refine la_callC (As := [.int (xs (5 * k + 1)), .int (xs (5 * k + 2))]) (rest := []) (d := 0 + 1) h d_L_law_139 l_L_13 g_K_spawn rfl (by decide) (c_K_spawn ) rfl rfl (Nat.le_of_ble_eq_true rfl) ?_
  refine la_m h d_L_law_142 ?_
  refine la_arg (n := 5 * k) (j := 1) h d_L_law_143 d_L_law_144 d_L_law_145 d_L_law_146 d_L_law_147 (by decide) (by omega) (by omega) ?_
  refine la_arg (n := 5 * k) (j := 2) h d_L_law_148 d_L_law_149 d_L_law_150 d_L_law_151 d_L_law_152 (by decide) (by omega) (by omega) ?_
  refine la_callR (As := [.int (xs (5 * k + 1)), .int (xs (5 * k + 2))]) (rest := [.int (cSpawn u (xs (5 * k + 1)) (xs (5 * k + 2))).1]) (d := 0 + 1) h d_L_law_153 l_L_17 g_R_spawn rfl (by decide) (c_R_spawn ) rfl rfl (Nat.le_of_ble_eq_true rfl) ?_
  refine la_eq h d_L_law_156 (spawn_ok hR (by omega)).1.symm ?_
  exact hE _ _ ((spawn_ok hR (by omega)).2.mono (by omega) (by omega))
/-- call 1: delete -/
theorem lc_1 (h : LOk p e s m below meth c l D cI cB cT ad1 ad2 b L xs) (hk : 5 * k + 5 ≤ L) (hL : L ≤ 2560) (hR : Rel (20 * k + 1) k v u) (hE : ∀ u' v', Rel (20 * (k + 1) + 1) (k + 1) v' u' → LA p e s m below meth c l D cI cB cT ad1 ad2 b 846 (nI (5 * k)) [] u' v') : LA p e s m below meth c l D cI cB cT ad1 ad2 b 161 (nI (5 * k)) [] u v := by
  refine la_x h d_L_law_161 ?_
  refine la_arg (n := 5 * k) (j := 1) h d_L_law_162 d_L_law_163 d_L_law_164 d_L_law_165 d_L_law_166 (by decide) (by omega) (by omega) ?_
  refine la_callC (As := [.int (xs (5 * k + 1))]) (rest := []) (d := 0 + 2) h d_L_law_167 l_L_18 g_K_delete rfl (by decide) (c_K_delete ) rfl rfl (Nat.le_of_ble_eq_true rfl) ?_
  refine la_m h d_L_law_170 ?_
  refine la_arg (n := 5 * k) (j := 1) h d_L_law_171 d_L_law_172 d_L_law_173 d_L_law_174 d_L_law_175 (by decide) (by omega) (by omega) ?_
  refine la_callR (As := [.int (xs (5 * k + 1))]) (rest := [.int (cDelete u (xs (5 * k + 1))).1]) (d := 0 + 1) h d_L_law_176 l_L_22 g_R_delete rfl (by decide) (c_R_delete ) rfl rfl (Nat.le_of_ble_eq_true rfl) ?_
  refine la_eq h d_L_law_179 (delete_ok hR (by omega)).1.symm ?_
  exact hE _ _ ((delete_ok hR (by omega)).2.mono (by omega) (by omega))
/-- call 2: load -/
theorem lc_2 (h : LOk p e s m below meth c l D cI cB cT ad1 ad2 b L xs) (hk : 5 * k + 5 ≤ L) (hL : L ≤ 2560) (hR : Rel (20 * k + 1) k v u) (hE : ∀ u' v', Rel (20 * (k + 1) + 1) (k + 1) v' u' → LA p e s m below meth c l D cI cB cT ad1 ad2 b 846 (nI (5 * k)) [] u' v') : LA p e s m below meth c l D cI cB cT ad1 ad2 b 184 (nI (5 * k)) [] u v := by
  refine la_x h d_L_law_184 ?_
  refine la_arg (n := 5 * k) (j := 1) h d_L_law_185 d_L_law_186 d_L_law_187 d_L_law_188 d_L_law_189 (by decide) (by omega) (by omega) ?_
  refine la_arg (n := 5 * k) (j := 2) h d_L_law_190 d_L_law_191 d_L_law_192 d_L_law_193 d_L_law_194 (by decide) (by omega) (by omega) ?_
  refine la_arg (n := 5 * k) (j := 3) h d_L_law_195 d_L_law_196 d_L_law_197 d_L_law_198 d_L_law_199 (by decide) (by omega) (by omega) ?_
  refine la_callC (As := [.int (xs (5 * k + 1)), .int (xs (5 * k + 2)), .int (xs (5 * k + 3))]) (rest := []) (d := 0 + 2) h d_L_law_200 l_L_23 g_K_load rfl (by decide) (c_K_load ) rfl rfl (Nat.le_of_ble_eq_true rfl) ?_
  refine la_m h d_L_law_203 ?_
  refine la_arg (n := 5 * k) (j := 1) h d_L_law_204 d_L_law_205 d_L_law_206 d_L_law_207 d_L_law_208 (by decide) (by omega) (by omega) ?_
  refine la_arg (n := 5 * k) (j := 2) h d_L_law_209 d_L_law_210 d_L_law_211 d_L_law_212 d_L_law_213 (by decide) (by omega) (by omega) ?_
  refine la_arg (n := 5 * k) (j := 3) h d_L_law_214 d_L_law_215 d_L_law_216 d_L_law_217 d_L_law_218 (by decide) (by omega) (by omega) ?_
  refine la_callR (As := [.int (xs (5 * k + 1)), .int (xs (5 * k + 2)), .int (xs (5 * k + 3))]) (rest := [.int (cLoad u (xs (5 * k + 1)) (xs (5 * k + 2)) (xs (5 * k + 3))).1]) (d := 0 + 2) h d_L_law_219 l_L_27 g_R_load rfl (by decide) (c_R_load ) rfl rfl (Nat.le_of_ble_eq_true rfl) ?_
  refine la_eq h d_L_law_222 (load_ok hR (by omega)).1.symm ?_
  exact hE _ _ ((load_ok hR (by omega)).2.mono (by omega) (by omega))
/-- call 3: offer -/
theorem lc_3 (h : LOk p e s m below meth c l D cI cB cT ad1 ad2 b L xs) (hk : 5 * k + 5 ≤ L) (hL : L ≤ 2560) (hR : Rel (20 * k + 1) k v u) (hE : ∀ u' v', Rel (20 * (k + 1) + 1) (k + 1) v' u' → LA p e s m below meth c l D cI cB cT ad1 ad2 b 846 (nI (5 * k)) [] u' v') : LA p e s m below meth c l D cI cB cT ad1 ad2 b 227 (nI (5 * k)) [] u v := by
  refine la_x h d_L_law_227 ?_
  refine la_arg (n := 5 * k) (j := 1) h d_L_law_228 d_L_law_229 d_L_law_230 d_L_law_231 d_L_law_232 (by decide) (by omega) (by omega) ?_
  refine la_arg (n := 5 * k) (j := 2) h d_L_law_233 d_L_law_234 d_L_law_235 d_L_law_236 d_L_law_237 (by decide) (by omega) (by omega) ?_
  refine la_arg (n := 5 * k) (j := 3) h d_L_law_238 d_L_law_239 d_L_law_240 d_L_law_241 d_L_law_242 (by decide) (by omega) (by omega) ?_
  refine la_arg (n := 5 * k) (j := 4) h d_L_law_243 d_L_law_244 d_L_law_245 d_L_law_246 d_L_law_247 (by decide) (by omega) (by omega) ?_
  by_cases hz : xs (5 * k + 4) = 0
  · refine la_z h d_L_law_248 hz ?_
    refine la_c (x := 0) h d_L_law_255 (by decide) ?_
    refine la_callC (As := [.int (xs (5 * k + 1)), .int (xs (5 * k + 2)), .int (xs (5 * k + 3)), .int (0)]) (rest := []) (d := 0 + 2) h d_L_law_256 l_L_28 g_K_offer rfl (by decide) (c_K_offer (Or.inl rfl)) rfl rfl (Nat.le_of_ble_eq_true rfl) ?_
    refine la_m h d_L_law_259 ?_
    refine la_arg (n := 5 * k) (j := 1) h d_L_law_260 d_L_law_261 d_L_law_262 d_L_law_263 d_L_law_264 (by decide) (by omega) (by omega) ?_
    refine la_arg (n := 5 * k) (j := 2) h d_L_law_265 d_L_law_266 d_L_law_267 d_L_law_268 d_L_law_269 (by decide) (by omega) (by omega) ?_
    refine la_arg (n := 5 * k) (j := 3) h d_L_law_270 d_L_law_271 d_L_law_272 d_L_law_273 d_L_law_274 (by decide) (by omega) (by omega) ?_
    refine la_arg (n := 5 * k) (j := 4) h d_L_law_275 d_L_law_276 d_L_law_277 d_L_law_278 d_L_law_279 (by decide) (by omega) (by omega) ?_
    refine la_z h d_L_law_280 hz ?_
    refine la_c (x := 0) h d_L_law_287 (by decide) ?_
    refine la_callR (As := [.int (xs (5 * k + 1)), .int (xs (5 * k + 2)), .int (xs (5 * k + 3)), .int (0)]) (rest := [.int (cOfferCall u (xs (5 * k + 1)) (xs (5 * k + 2)) (xs (5 * k + 3)) (0)).1]) (d := 0 + 2) h d_L_law_288 l_L_32 g_R_offer rfl (by decide) (c_R_offer (Or.inl rfl)) rfl rfl (Nat.le_of_ble_eq_true rfl) ?_
    refine la_eq h d_L_law_291 (offer_ok hR (by omega)).1.symm ?_
    exact hE _ _ ((offer_ok hR (by omega)).2.mono (by omega) (by omega))
  · refine la_nz h d_L_law_248 hz ?_
    refine la_c (x := 1) h d_L_law_251 (by decide) ?_
    refine la_goto h d_L_law_252 ?_
    refine la_callC (As := [.int (xs (5 * k + 1)), .int (xs (5 * k + 2)), .int (xs (5 * k + 3)), .int (1)]) (rest := []) (d := 0 + 2) h d_L_law_256 l_L_28 g_K_offer rfl (by decide) (c_K_offer (Or.inr rfl)) rfl rfl (Nat.le_of_ble_eq_true rfl) ?_
    refine la_m h d_L_law_259 ?_
    refine la_arg (n := 5 * k) (j := 1) h d_L_law_260 d_L_law_261 d_L_law_262 d_L_law_263 d_L_law_264 (by decide) (by omega) (by omega) ?_
    refine la_arg (n := 5 * k) (j := 2) h d_L_law_265 d_L_law_266 d_L_law_267 d_L_law_268 d_L_law_269 (by decide) (by omega) (by omega) ?_
    refine la_arg (n := 5 * k) (j := 3) h d_L_law_270 d_L_law_271 d_L_law_272 d_L_law_273 d_L_law_274 (by decide) (by omega) (by omega) ?_
    refine la_arg (n := 5 * k) (j := 4) h d_L_law_275 d_L_law_276 d_L_law_277 d_L_law_278 d_L_law_279 (by decide) (by omega) (by omega) ?_
    refine la_nz h d_L_law_280 hz ?_
    refine la_c (x := 1) h d_L_law_283 (by decide) ?_
    refine la_goto h d_L_law_284 ?_
    refine la_callR (As := [.int (xs (5 * k + 1)), .int (xs (5 * k + 2)), .int (xs (5 * k + 3)), .int (1)]) (rest := [.int (cOfferCall u (xs (5 * k + 1)) (xs (5 * k + 2)) (xs (5 * k + 3)) (1)).1]) (d := 0 + 2) h d_L_law_288 l_L_32 g_R_offer rfl (by decide) (c_R_offer (Or.inr rfl)) rfl rfl (Nat.le_of_ble_eq_true rfl) ?_
    refine la_eq h d_L_law_291 (offer_ok hR (by omega)).1.symm ?_
    exact hE _ _ ((offer_ok hR (by omega)).2.mono (by omega) (by omega))
/-- call 4: window -/
theorem lc_4 (h : LOk p e s m below meth c l D cI cB cT ad1 ad2 b L xs) (hk : 5 * k + 5 ≤ L) (hL : L ≤ 2560) (hR : Rel (20 * k + 1) k v u) (hE : ∀ u' v', Rel (20 * (k + 1) + 1) (k + 1) v' u' → LA p e s m below meth c l D cI cB cT ad1 ad2 b 846 (nI (5 * k)) [] u' v') : LA p e s m below meth c l D cI cB cT ad1 ad2 b 296 (nI (5 * k)) [] u v := by
  refine la_x h d_L_law_296 ?_
  refine la_arg (n := 5 * k) (j := 1) h d_L_law_297 d_L_law_298 d_L_law_299 d_L_law_300 d_L_law_301 (by decide) (by omega) (by omega) ?_
  refine la_arg (n := 5 * k) (j := 2) h d_L_law_302 d_L_law_303 d_L_law_304 d_L_law_305 d_L_law_306 (by decide) (by omega) (by omega) ?_
  refine la_callC (As := [.int (xs (5 * k + 1)), .int (xs (5 * k + 2))]) (rest := []) (d := 0 + 2) h d_L_law_307 l_L_33 g_K_window rfl (by decide) (c_K_window ) rfl rfl (Nat.le_of_ble_eq_true rfl) ?_
  refine la_m h d_L_law_310 ?_
  refine la_arg (n := 5 * k) (j := 1) h d_L_law_311 d_L_law_312 d_L_law_313 d_L_law_314 d_L_law_315 (by decide) (by omega) (by omega) ?_
  refine la_arg (n := 5 * k) (j := 2) h d_L_law_316 d_L_law_317 d_L_law_318 d_L_law_319 d_L_law_320 (by decide) (by omega) (by omega) ?_
  refine la_callR (As := [.int (xs (5 * k + 1)), .int (xs (5 * k + 2))]) (rest := [.int (cWindow u (xs (5 * k + 1)) (xs (5 * k + 2))).1]) (d := 0 + 2) h d_L_law_321 l_L_37 g_R_window rfl (by decide) (c_R_window ) rfl rfl (Nat.le_of_ble_eq_true rfl) ?_
  refine la_eq h d_L_law_324 (window_ok hR (by omega)).1.symm ?_
  exact hE _ _ ((window_ok hR (by omega)).2.mono (by omega) (by omega))
/-- call 5: send -/
theorem lc_5 (h : LOk p e s m below meth c l D cI cB cT ad1 ad2 b L xs) (hk : 5 * k + 5 ≤ L) (hL : L ≤ 2560) (hR : Rel (20 * k + 1) k v u) (hE : ∀ u' v', Rel (20 * (k + 1) + 1) (k + 1) v' u' → LA p e s m below meth c l D cI cB cT ad1 ad2 b 846 (nI (5 * k)) [] u' v') : LA p e s m below meth c l D cI cB cT ad1 ad2 b 329 (nI (5 * k)) [] u v := by
  refine la_x h d_L_law_329 ?_
  refine la_arg (n := 5 * k) (j := 1) h d_L_law_330 d_L_law_331 d_L_law_332 d_L_law_333 d_L_law_334 (by decide) (by omega) (by omega) ?_
  refine la_arg (n := 5 * k) (j := 2) h d_L_law_335 d_L_law_336 d_L_law_337 d_L_law_338 d_L_law_339 (by decide) (by omega) (by omega) ?_
  refine la_arg (n := 5 * k) (j := 3) h d_L_law_340 d_L_law_341 d_L_law_342 d_L_law_343 d_L_law_344 (by decide) (by omega) (by omega) ?_
  refine la_callC (As := [.int (xs (5 * k + 1)), .int (xs (5 * k + 2)), .int (xs (5 * k + 3))]) (rest := []) (d := 0 + 5) h d_L_law_345 l_L_38 g_K_send rfl (by decide) (c_K_send hR.ci) rfl rfl (Nat.le_of_ble_eq_true rfl) ?_
  refine la_m h d_L_law_348 ?_
  refine la_arg (n := 5 * k) (j := 1) h d_L_law_349 d_L_law_350 d_L_law_351 d_L_law_352 d_L_law_353 (by decide) (by omega) (by omega) ?_
  refine la_arg (n := 5 * k) (j := 2) h d_L_law_354 d_L_law_355 d_L_law_356 d_L_law_357 d_L_law_358 (by decide) (by omega) (by omega) ?_
  refine la_arg (n := 5 * k) (j := 3) h d_L_law_359 d_L_law_360 d_L_law_361 d_L_law_362 d_L_law_363 (by decide) (by omega) (by omega) ?_
  refine la_callR (As := [.int (xs (5 * k + 1)), .int (xs (5 * k + 2)), .int (xs (5 * k + 3))]) (rest := [.int (cSend u (xs (5 * k + 1)) (xs (5 * k + 2)) (xs (5 * k + 3))).1]) (d := 0 + 5) h d_L_law_364 l_L_42 g_R_send rfl (by decide) (c_R_send hR.ri) rfl rfl (Nat.le_of_ble_eq_true rfl) ?_
  refine la_eq h d_L_law_367 (send_ok hR (by omega) (by omega)).1.symm ?_
  exact hE _ _ ((send_ok hR (by omega) (by omega)).2.mono (by omega) (by omega))
/-- call 6: call -/
theorem lc_6 (h : LOk p e s m below meth c l D cI cB cT ad1 ad2 b L xs) (hk : 5 * k + 5 ≤ L) (hL : L ≤ 2560) (hR : Rel (20 * k + 1) k v u) (hE : ∀ u' v', Rel (20 * (k + 1) + 1) (k + 1) v' u' → LA p e s m below meth c l D cI cB cT ad1 ad2 b 846 (nI (5 * k)) [] u' v') : LA p e s m below meth c l D cI cB cT ad1 ad2 b 372 (nI (5 * k)) [] u v := by
  refine la_x h d_L_law_372 ?_
  refine la_arg (n := 5 * k) (j := 1) h d_L_law_373 d_L_law_374 d_L_law_375 d_L_law_376 d_L_law_377 (by decide) (by omega) (by omega) ?_
  refine la_arg (n := 5 * k) (j := 2) h d_L_law_378 d_L_law_379 d_L_law_380 d_L_law_381 d_L_law_382 (by decide) (by omega) (by omega) ?_
  refine la_arg (n := 5 * k) (j := 3) h d_L_law_383 d_L_law_384 d_L_law_385 d_L_law_386 d_L_law_387 (by decide) (by omega) (by omega) ?_
  refine la_callC (As := [.int (xs (5 * k + 1)), .int (xs (5 * k + 2)), .int (xs (5 * k + 3))]) (rest := []) (d := 0 + 5) h d_L_law_388 l_L_43 g_K_call rfl (by decide) (c_K_call hR.ci) rfl rfl (Nat.le_of_ble_eq_true rfl) ?_
  refine la_m h d_L_law_391 ?_
  refine la_arg (n := 5 * k) (j := 1) h d_L_law_392 d_L_law_393 d_L_law_394 d_L_law_395 d_L_law_396 (by decide) (by omega) (by omega) ?_
  refine la_arg (n := 5 * k) (j := 2) h d_L_law_397 d_L_law_398 d_L_law_399 d_L_law_400 d_L_law_401 (by decide) (by omega) (by omega) ?_
  refine la_arg (n := 5 * k) (j := 3) h d_L_law_402 d_L_law_403 d_L_law_404 d_L_law_405 d_L_law_406 (by decide) (by omega) (by omega) ?_
  refine la_callR (As := [.int (xs (5 * k + 1)), .int (xs (5 * k + 2)), .int (xs (5 * k + 3))]) (rest := [.int (cCall u (xs (5 * k + 1)) (xs (5 * k + 2)) (xs (5 * k + 3))).1]) (d := 0 + 5) h d_L_law_407 l_L_46 g_R_call rfl (by decide) (c_R_call hR.ri) rfl rfl (Nat.le_of_ble_eq_true rfl) ?_
  refine la_eq h d_L_law_410 (call_ok hR (by omega) (by omega)).1.symm ?_
  exact hE _ _ ((call_ok hR (by omega) (by omega)).2.mono (by omega) (by omega))
/-- call 7: receive -/
theorem lc_7 (h : LOk p e s m below meth c l D cI cB cT ad1 ad2 b L xs) (hk : 5 * k + 5 ≤ L) (hL : L ≤ 2560) (hR : Rel (20 * k + 1) k v u) (hE : ∀ u' v', Rel (20 * (k + 1) + 1) (k + 1) v' u' → LA p e s m below meth c l D cI cB cT ad1 ad2 b 846 (nI (5 * k)) [] u' v') : LA p e s m below meth c l D cI cB cT ad1 ad2 b 415 (nI (5 * k)) [] u v := by
  refine la_x h d_L_law_415 ?_
  refine la_arg (n := 5 * k) (j := 1) h d_L_law_416 d_L_law_417 d_L_law_418 d_L_law_419 d_L_law_420 (by decide) (by omega) (by omega) ?_
  refine la_arg (n := 5 * k) (j := 2) h d_L_law_421 d_L_law_422 d_L_law_423 d_L_law_424 d_L_law_425 (by decide) (by omega) (by omega) ?_
  refine la_arg (n := 5 * k) (j := 3) h d_L_law_426 d_L_law_427 d_L_law_428 d_L_law_429 d_L_law_430 (by decide) (by omega) (by omega) ?_
  refine la_callC (As := [.int (xs (5 * k + 1)), .int (xs (5 * k + 2)), .int (xs (5 * k + 3))]) (rest := []) (d := 0 + 6) h d_L_law_431 l_L_47 g_K_receive rfl (by decide) (c_K_receive hR.ci) rfl rfl (Nat.le_of_ble_eq_true rfl) ?_
  refine la_m h d_L_law_434 ?_
  refine la_arg (n := 5 * k) (j := 1) h d_L_law_435 d_L_law_436 d_L_law_437 d_L_law_438 d_L_law_439 (by decide) (by omega) (by omega) ?_
  refine la_arg (n := 5 * k) (j := 2) h d_L_law_440 d_L_law_441 d_L_law_442 d_L_law_443 d_L_law_444 (by decide) (by omega) (by omega) ?_
  refine la_arg (n := 5 * k) (j := 3) h d_L_law_445 d_L_law_446 d_L_law_447 d_L_law_448 d_L_law_449 (by decide) (by omega) (by omega) ?_
  refine la_callR (As := [.int (xs (5 * k + 1)), .int (xs (5 * k + 2)), .int (xs (5 * k + 3))]) (rest := [.int (cReceive u (xs (5 * k + 1)) (xs (5 * k + 2)) (xs (5 * k + 3))).1]) (d := 0 + 4) h d_L_law_450 l_L_50 g_R_receive rfl (by decide) (c_R_receive hR.ri (recv_pre hR)) rfl rfl (Nat.le_of_ble_eq_true rfl) ?_
  refine la_eq h d_L_law_453 (receive_ok hR (by omega) (by omega)).1.symm ?_
  exact hE _ _ ((receive_ok hR (by omega) (by omega)).2.mono (by omega) (by omega))
/-- call 8: access -/
theorem lc_8 (h : LOk p e s m below meth c l D cI cB cT ad1 ad2 b L xs) (hk : 5 * k + 5 ≤ L) (hL : L ≤ 2560) (hR : Rel (20 * k + 1) k v u) (hE : ∀ u' v', Rel (20 * (k + 1) + 1) (k + 1) v' u' → LA p e s m below meth c l D cI cB cT ad1 ad2 b 846 (nI (5 * k)) [] u' v') : LA p e s m below meth c l D cI cB cT ad1 ad2 b 458 (nI (5 * k)) [] u v := by
  refine la_x h d_L_law_458 ?_
  refine la_arg (n := 5 * k) (j := 1) h d_L_law_459 d_L_law_460 d_L_law_461 d_L_law_462 d_L_law_463 (by decide) (by omega) (by omega) ?_
  refine la_arg (n := 5 * k) (j := 2) h d_L_law_464 d_L_law_465 d_L_law_466 d_L_law_467 d_L_law_468 (by decide) (by omega) (by omega) ?_
  refine la_arg (n := 5 * k) (j := 3) h d_L_law_469 d_L_law_470 d_L_law_471 d_L_law_472 d_L_law_473 (by decide) (by omega) (by omega) ?_
  by_cases hz : xs (5 * k + 3) = 0
  · refine la_z h d_L_law_474 hz ?_
    refine la_c (x := 0) h d_L_law_481 (by decide) ?_
    refine la_arg (n := 5 * k) (j := 4) h d_L_law_482 d_L_law_483 d_L_law_484 d_L_law_485 d_L_law_486 (by decide) (by omega) (by omega) ?_
    refine la_callC (As := [.int (xs (5 * k + 1)), .int (xs (5 * k + 2)), .int (0), .int (xs (5 * k + 4))]) (rest := []) (d := 0 + 4) h d_L_law_487 l_L_51 g_K_access rfl (by decide) (c_K_access hR.ci) rfl rfl (Nat.le_of_ble_eq_true rfl) ?_
    refine la_m h d_L_law_490 ?_
    refine la_arg (n := 5 * k) (j := 1) h d_L_law_491 d_L_law_492 d_L_law_493 d_L_law_494 d_L_law_495 (by decide) (by omega) (by omega) ?_
    refine la_arg (n := 5 * k) (j := 2) h d_L_law_496 d_L_law_497 d_L_law_498 d_L_law_499 d_L_law_500 (by decide) (by omega) (by omega) ?_
    refine la_arg (n := 5 * k) (j := 3) h d_L_law_501 d_L_law_502 d_L_law_503 d_L_law_504 d_L_law_505 (by decide) (by omega) (by omega) ?_
    refine la_z h d_L_law_506 hz ?_
    refine la_c (x := 0) h d_L_law_513 (by decide) ?_
    refine la_arg (n := 5 * k) (j := 4) h d_L_law_514 d_L_law_515 d_L_law_516 d_L_law_517 d_L_law_518 (by decide) (by omega) (by omega) ?_
    refine la_callR (As := [.int (xs (5 * k + 1)), .int (xs (5 * k + 2)), .int (0), .int (xs (5 * k + 4))]) (rest := [.int (cAccess u (xs (5 * k + 1)) (xs (5 * k + 2)) (0) (xs (5 * k + 4))).1]) (d := 0 + 3) h d_L_law_519 l_L_55 g_R_access rfl (by decide) (c_R_access hR.ri (Or.inl rfl)) rfl rfl (Nat.le_of_ble_eq_true rfl) ?_
    refine la_eq h d_L_law_522 (access_ok hR (by omega)).1.symm ?_
    exact hE _ _ ((access_ok hR (by omega)).2.mono (by omega) (by omega))
  · refine la_nz h d_L_law_474 hz ?_
    refine la_c (x := 1) h d_L_law_477 (by decide) ?_
    refine la_goto h d_L_law_478 ?_
    refine la_arg (n := 5 * k) (j := 4) h d_L_law_482 d_L_law_483 d_L_law_484 d_L_law_485 d_L_law_486 (by decide) (by omega) (by omega) ?_
    refine la_callC (As := [.int (xs (5 * k + 1)), .int (xs (5 * k + 2)), .int (1), .int (xs (5 * k + 4))]) (rest := []) (d := 0 + 4) h d_L_law_487 l_L_51 g_K_access rfl (by decide) (c_K_access hR.ci) rfl rfl (Nat.le_of_ble_eq_true rfl) ?_
    refine la_m h d_L_law_490 ?_
    refine la_arg (n := 5 * k) (j := 1) h d_L_law_491 d_L_law_492 d_L_law_493 d_L_law_494 d_L_law_495 (by decide) (by omega) (by omega) ?_
    refine la_arg (n := 5 * k) (j := 2) h d_L_law_496 d_L_law_497 d_L_law_498 d_L_law_499 d_L_law_500 (by decide) (by omega) (by omega) ?_
    refine la_arg (n := 5 * k) (j := 3) h d_L_law_501 d_L_law_502 d_L_law_503 d_L_law_504 d_L_law_505 (by decide) (by omega) (by omega) ?_
    refine la_nz h d_L_law_506 hz ?_
    refine la_c (x := 1) h d_L_law_509 (by decide) ?_
    refine la_goto h d_L_law_510 ?_
    refine la_arg (n := 5 * k) (j := 4) h d_L_law_514 d_L_law_515 d_L_law_516 d_L_law_517 d_L_law_518 (by decide) (by omega) (by omega) ?_
    refine la_callR (As := [.int (xs (5 * k + 1)), .int (xs (5 * k + 2)), .int (1), .int (xs (5 * k + 4))]) (rest := [.int (cAccess u (xs (5 * k + 1)) (xs (5 * k + 2)) (1) (xs (5 * k + 4))).1]) (d := 0 + 3) h d_L_law_519 l_L_55 g_R_access rfl (by decide) (c_R_access hR.ri (Or.inr rfl)) rfl rfl (Nat.le_of_ble_eq_true rfl) ?_
    refine la_eq h d_L_law_522 (access_ok hR (by omega)).1.symm ?_
    exact hE _ _ ((access_ok hR (by omega)).2.mono (by omega) (by omega))
/-- call 9: unmap -/
theorem lc_9 (h : LOk p e s m below meth c l D cI cB cT ad1 ad2 b L xs) (hk : 5 * k + 5 ≤ L) (hL : L ≤ 2560) (hR : Rel (20 * k + 1) k v u) (hE : ∀ u' v', Rel (20 * (k + 1) + 1) (k + 1) v' u' → LA p e s m below meth c l D cI cB cT ad1 ad2 b 846 (nI (5 * k)) [] u' v') : LA p e s m below meth c l D cI cB cT ad1 ad2 b 527 (nI (5 * k)) [] u v := by
  refine la_x h d_L_law_527 ?_
  refine la_arg (n := 5 * k) (j := 1) h d_L_law_528 d_L_law_529 d_L_law_530 d_L_law_531 d_L_law_532 (by decide) (by omega) (by omega) ?_
  refine la_arg (n := 5 * k) (j := 2) h d_L_law_533 d_L_law_534 d_L_law_535 d_L_law_536 d_L_law_537 (by decide) (by omega) (by omega) ?_
  refine la_arg (n := 5 * k) (j := 3) h d_L_law_538 d_L_law_539 d_L_law_540 d_L_law_541 d_L_law_542 (by decide) (by omega) (by omega) ?_
  refine la_arg (n := 5 * k) (j := 4) h d_L_law_543 d_L_law_544 d_L_law_545 d_L_law_546 d_L_law_547 (by decide) (by omega) (by omega) ?_
  by_cases hz : xs (5 * k + 4) = 0
  · refine la_z h d_L_law_548 hz ?_
    refine la_c (x := 0) h d_L_law_555 (by decide) ?_
    refine la_callC (As := [.int (xs (5 * k + 1)), .int (xs (5 * k + 2)), .int (xs (5 * k + 3)), .int (0)]) (rest := []) (d := 0 + 2) h d_L_law_556 l_L_56 g_K_unmap rfl (by decide) (c_K_unmap hR.ci) rfl rfl (Nat.le_of_ble_eq_true rfl) ?_
    refine la_m h d_L_law_559 ?_
    refine la_arg (n := 5 * k) (j := 1) h d_L_law_560 d_L_law_561 d_L_law_562 d_L_law_563 d_L_law_564 (by decide) (by omega) (by omega) ?_
    refine la_arg (n := 5 * k) (j := 2) h d_L_law_565 d_L_law_566 d_L_law_567 d_L_law_568 d_L_law_569 (by decide) (by omega) (by omega) ?_
    refine la_arg (n := 5 * k) (j := 3) h d_L_law_570 d_L_law_571 d_L_law_572 d_L_law_573 d_L_law_574 (by decide) (by omega) (by omega) ?_
    refine la_arg (n := 5 * k) (j := 4) h d_L_law_575 d_L_law_576 d_L_law_577 d_L_law_578 d_L_law_579 (by decide) (by omega) (by omega) ?_
    refine la_z h d_L_law_580 hz ?_
    refine la_c (x := 0) h d_L_law_587 (by decide) ?_
    refine la_callR (As := [.int (xs (5 * k + 1)), .int (xs (5 * k + 2)), .int (xs (5 * k + 3)), .int (0)]) (rest := [.int (cUnmap u (xs (5 * k + 1)) (xs (5 * k + 2)) (xs (5 * k + 3)) (0)).1]) (d := 0 + 2) h d_L_law_588 l_L_60 g_R_unmap rfl (by decide) (c_R_unmap hR.ri) rfl rfl (Nat.le_of_ble_eq_true rfl) ?_
    refine la_eq h d_L_law_591 (unmap_ok hR).1.symm ?_
    exact hE _ _ ((unmap_ok hR).2.mono (by omega) (by omega))
  · refine la_nz h d_L_law_548 hz ?_
    refine la_c (x := 1) h d_L_law_551 (by decide) ?_
    refine la_goto h d_L_law_552 ?_
    refine la_callC (As := [.int (xs (5 * k + 1)), .int (xs (5 * k + 2)), .int (xs (5 * k + 3)), .int (1)]) (rest := []) (d := 0 + 2) h d_L_law_556 l_L_56 g_K_unmap rfl (by decide) (c_K_unmap hR.ci) rfl rfl (Nat.le_of_ble_eq_true rfl) ?_
    refine la_m h d_L_law_559 ?_
    refine la_arg (n := 5 * k) (j := 1) h d_L_law_560 d_L_law_561 d_L_law_562 d_L_law_563 d_L_law_564 (by decide) (by omega) (by omega) ?_
    refine la_arg (n := 5 * k) (j := 2) h d_L_law_565 d_L_law_566 d_L_law_567 d_L_law_568 d_L_law_569 (by decide) (by omega) (by omega) ?_
    refine la_arg (n := 5 * k) (j := 3) h d_L_law_570 d_L_law_571 d_L_law_572 d_L_law_573 d_L_law_574 (by decide) (by omega) (by omega) ?_
    refine la_arg (n := 5 * k) (j := 4) h d_L_law_575 d_L_law_576 d_L_law_577 d_L_law_578 d_L_law_579 (by decide) (by omega) (by omega) ?_
    refine la_nz h d_L_law_580 hz ?_
    refine la_c (x := 1) h d_L_law_583 (by decide) ?_
    refine la_goto h d_L_law_584 ?_
    refine la_callR (As := [.int (xs (5 * k + 1)), .int (xs (5 * k + 2)), .int (xs (5 * k + 3)), .int (1)]) (rest := [.int (cUnmap u (xs (5 * k + 1)) (xs (5 * k + 2)) (xs (5 * k + 3)) (1)).1]) (d := 0 + 2) h d_L_law_588 l_L_60 g_R_unmap rfl (by decide) (c_R_unmap hR.ri) rfl rfl (Nat.le_of_ble_eq_true rfl) ?_
    refine la_eq h d_L_law_591 (unmap_ok hR).1.symm ?_
    exact hE _ _ ((unmap_ok hR).2.mono (by omega) (by omega))
/-- call 10: tick -/
theorem lc_10 (h : LOk p e s m below meth c l D cI cB cT ad1 ad2 b L xs) (hk : 5 * k + 5 ≤ L) (hL : L ≤ 2560) (hR : Rel (20 * k + 1) k v u) (hE : ∀ u' v', Rel (20 * (k + 1) + 1) (k + 1) v' u' → LA p e s m below meth c l D cI cB cT ad1 ad2 b 846 (nI (5 * k)) [] u' v') : LA p e s m below meth c l D cI cB cT ad1 ad2 b 596 (nI (5 * k)) [] u v := by
  refine la_x h d_L_law_596 ?_
  refine la_callC (As := []) (rest := []) (d := 0 + 1) h d_L_law_597 l_L_61 g_K_tick rfl (by decide) (c_K_tick ) rfl rfl (Nat.le_of_ble_eq_true rfl) ?_
  refine la_m h d_L_law_600 ?_
  refine la_callR (As := []) (rest := [.int (cTick u ).1]) (d := 0 + 1) h d_L_law_601 l_L_65 g_R_tick rfl (by decide) (c_R_tick ) rfl rfl (Nat.le_of_ble_eq_true rfl) ?_
  refine la_eq h d_L_law_604 (tick_ok hR (by omega) (by omega)).1.symm ?_
  exact hE _ _ ((tick_ok hR (by omega) (by omega)).2.mono (by omega) (by omega))
/-- call 11: state -/
theorem lc_11 (h : LOk p e s m below meth c l D cI cB cT ad1 ad2 b L xs) (hk : 5 * k + 5 ≤ L) (hL : L ≤ 2560) (hR : Rel (20 * k + 1) k v u) (hE : ∀ u' v', Rel (20 * (k + 1) + 1) (k + 1) v' u' → LA p e s m below meth c l D cI cB cT ad1 ad2 b 846 (nI (5 * k)) [] u' v') : LA p e s m below meth c l D cI cB cT ad1 ad2 b 609 (nI (5 * k)) [] u v := by
  refine la_x h d_L_law_609 ?_
  refine la_arg (n := 5 * k) (j := 1) h d_L_law_610 d_L_law_611 d_L_law_612 d_L_law_613 d_L_law_614 (by decide) (by omega) (by omega) ?_
  refine la_callC (As := [.int (xs (5 * k + 1))]) (rest := []) (d := 0 + 1) h d_L_law_615 l_L_66 g_K_state rfl (by decide) (c_K_state ) rfl rfl (Nat.le_of_ble_eq_true rfl) ?_
  refine la_m h d_L_law_618 ?_
  refine la_arg (n := 5 * k) (j := 1) h d_L_law_619 d_L_law_620 d_L_law_621 d_L_law_622 d_L_law_623 (by decide) (by omega) (by omega) ?_
  refine la_callR (As := [.int (xs (5 * k + 1))]) (rest := [.int (cState u (xs (5 * k + 1)))]) (d := 0 + 1) h d_L_law_624 l_L_70 g_R_state rfl (by decide) (c_R_state ) rfl rfl (Nat.le_of_ble_eq_true rfl) ?_
  refine la_eq h d_L_law_627 (state_ok hR).symm ?_
  exact hE _ _ (hR.mono (by omega) (by omega))
/-- call 12: register -/
theorem lc_12 (h : LOk p e s m below meth c l D cI cB cT ad1 ad2 b L xs) (hk : 5 * k + 5 ≤ L) (hL : L ≤ 2560) (hR : Rel (20 * k + 1) k v u) (hE : ∀ u' v', Rel (20 * (k + 1) + 1) (k + 1) v' u' → LA p e s m below meth c l D cI cB cT ad1 ad2 b 846 (nI (5 * k)) [] u' v') : LA p e s m below meth c l D cI cB cT ad1 ad2 b 632 (nI (5 * k)) [] u v := by
  refine la_x h d_L_law_632 ?_
  refine la_arg (n := 5 * k) (j := 1) h d_L_law_633 d_L_law_634 d_L_law_635 d_L_law_636 d_L_law_637 (by decide) (by omega) (by omega) ?_
  refine la_arg (n := 5 * k) (j := 2) h d_L_law_638 d_L_law_639 d_L_law_640 d_L_law_641 d_L_law_642 (by decide) (by omega) (by omega) ?_
  refine la_callC (As := [.int (xs (5 * k + 1)), .int (xs (5 * k + 2))]) (rest := []) (d := 0 + 1) h d_L_law_643 l_L_71 g_K_register rfl (by decide) (c_K_register ) rfl rfl (Nat.le_of_ble_eq_true rfl) ?_
  refine la_m h d_L_law_646 ?_
  refine la_arg (n := 5 * k) (j := 1) h d_L_law_647 d_L_law_648 d_L_law_649 d_L_law_650 d_L_law_651 (by decide) (by omega) (by omega) ?_
  refine la_arg (n := 5 * k) (j := 2) h d_L_law_652 d_L_law_653 d_L_law_654 d_L_law_655 d_L_law_656 (by decide) (by omega) (by omega) ?_
  refine la_callR (As := [.int (xs (5 * k + 1)), .int (xs (5 * k + 2))]) (rest := [.int (cRegister u (xs (5 * k + 1)) (xs (5 * k + 2)))]) (d := 0 + 1) h d_L_law_657 l_L_74 g_R_register rfl (by decide) (c_R_register ) rfl rfl (Nat.le_of_ble_eq_true rfl) ?_
  refine la_eq h d_L_law_660 (register_ok hR).symm ?_
  exact hE _ _ (hR.mono (by omega) (by omega))
/-- call 13: outcome -/
theorem lc_13 (h : LOk p e s m below meth c l D cI cB cT ad1 ad2 b L xs) (hk : 5 * k + 5 ≤ L) (hL : L ≤ 2560) (hR : Rel (20 * k + 1) k v u) (hE : ∀ u' v', Rel (20 * (k + 1) + 1) (k + 1) v' u' → LA p e s m below meth c l D cI cB cT ad1 ad2 b 846 (nI (5 * k)) [] u' v') : LA p e s m below meth c l D cI cB cT ad1 ad2 b 665 (nI (5 * k)) [] u v := by
  refine la_x h d_L_law_665 ?_
  refine la_arg (n := 5 * k) (j := 1) h d_L_law_666 d_L_law_667 d_L_law_668 d_L_law_669 d_L_law_670 (by decide) (by omega) (by omega) ?_
  refine la_callC (As := [.int (xs (5 * k + 1))]) (rest := []) (d := 0 + 1) h d_L_law_671 l_L_75 g_K_outcome rfl (by decide) (c_K_outcome ) rfl rfl (Nat.le_of_ble_eq_true rfl) ?_
  refine la_m h d_L_law_674 ?_
  refine la_arg (n := 5 * k) (j := 1) h d_L_law_675 d_L_law_676 d_L_law_677 d_L_law_678 d_L_law_679 (by decide) (by omega) (by omega) ?_
  refine la_callR (As := [.int (xs (5 * k + 1))]) (rest := [.int (cOutcome u (xs (5 * k + 1)))]) (d := 0 + 1) h d_L_law_680 l_L_78 g_R_outcome rfl (by decide) (c_R_outcome ) rfl rfl (Nat.le_of_ble_eq_true rfl) ?_
  refine la_eq h d_L_law_683 (outcome_ok hR).symm ?_
  exact hE _ _ (hR.mono (by omega) (by omega))
/-- call 14: value -/
theorem lc_14 (h : LOk p e s m below meth c l D cI cB cT ad1 ad2 b L xs) (hk : 5 * k + 5 ≤ L) (hL : L ≤ 2560) (hR : Rel (20 * k + 1) k v u) (hE : ∀ u' v', Rel (20 * (k + 1) + 1) (k + 1) v' u' → LA p e s m below meth c l D cI cB cT ad1 ad2 b 846 (nI (5 * k)) [] u' v') : LA p e s m below meth c l D cI cB cT ad1 ad2 b 688 (nI (5 * k)) [] u v := by
  refine la_x h d_L_law_688 ?_
  refine la_arg (n := 5 * k) (j := 1) h d_L_law_689 d_L_law_690 d_L_law_691 d_L_law_692 d_L_law_693 (by decide) (by omega) (by omega) ?_
  refine la_callC (As := [.int (xs (5 * k + 1))]) (rest := []) (d := 0 + 1) h d_L_law_694 l_L_79 g_K_value rfl (by decide) (c_K_value ) rfl rfl (Nat.le_of_ble_eq_true rfl) ?_
  refine la_m h d_L_law_697 ?_
  refine la_arg (n := 5 * k) (j := 1) h d_L_law_698 d_L_law_699 d_L_law_700 d_L_law_701 d_L_law_702 (by decide) (by omega) (by omega) ?_
  refine la_callR (As := [.int (xs (5 * k + 1))]) (rest := [.int (cValue u (xs (5 * k + 1)))]) (d := 0 + 1) h d_L_law_703 l_L_82 g_R_value rfl (by decide) (c_R_value ) rfl rfl (Nat.le_of_ble_eq_true rfl) ?_
  refine la_eq h d_L_law_706 (value_ok hR).symm ?_
  exact hE _ _ (hR.mono (by omega) (by omega))
/-- call 15: sender -/
theorem lc_15 (h : LOk p e s m below meth c l D cI cB cT ad1 ad2 b L xs) (hk : 5 * k + 5 ≤ L) (hL : L ≤ 2560) (hR : Rel (20 * k + 1) k v u) (hE : ∀ u' v', Rel (20 * (k + 1) + 1) (k + 1) v' u' → LA p e s m below meth c l D cI cB cT ad1 ad2 b 846 (nI (5 * k)) [] u' v') : LA p e s m below meth c l D cI cB cT ad1 ad2 b 711 (nI (5 * k)) [] u v := by
  refine la_x h d_L_law_711 ?_
  refine la_arg (n := 5 * k) (j := 1) h d_L_law_712 d_L_law_713 d_L_law_714 d_L_law_715 d_L_law_716 (by decide) (by omega) (by omega) ?_
  refine la_callC (As := [.int (xs (5 * k + 1))]) (rest := []) (d := 0 + 1) h d_L_law_717 l_L_83 g_K_sender rfl (by decide) (c_K_sender ) rfl rfl (Nat.le_of_ble_eq_true rfl) ?_
  refine la_m h d_L_law_720 ?_
  refine la_arg (n := 5 * k) (j := 1) h d_L_law_721 d_L_law_722 d_L_law_723 d_L_law_724 d_L_law_725 (by decide) (by omega) (by omega) ?_
  refine la_callR (As := [.int (xs (5 * k + 1))]) (rest := [.int (cSender u (xs (5 * k + 1)))]) (d := 0 + 1) h d_L_law_726 l_L_86 g_R_sender rfl (by decide) (c_R_sender ) rfl rfl (Nat.le_of_ble_eq_true rfl) ?_
  refine la_eq h d_L_law_729 (sender_ok hR).symm ?_
  exact hE _ _ (hR.mono (by omega) (by omega))
/-- call 16: mapping -/
theorem lc_16 (h : LOk p e s m below meth c l D cI cB cT ad1 ad2 b L xs) (hk : 5 * k + 5 ≤ L) (hL : L ≤ 2560) (hR : Rel (20 * k + 1) k v u) (hE : ∀ u' v', Rel (20 * (k + 1) + 1) (k + 1) v' u' → LA p e s m below meth c l D cI cB cT ad1 ad2 b 846 (nI (5 * k)) [] u' v') : LA p e s m below meth c l D cI cB cT ad1 ad2 b 734 (nI (5 * k)) [] u v := by
  refine la_x h d_L_law_734 ?_
  refine la_arg (n := 5 * k) (j := 1) h d_L_law_735 d_L_law_736 d_L_law_737 d_L_law_738 d_L_law_739 (by decide) (by omega) (by omega) ?_
  refine la_arg (n := 5 * k) (j := 2) h d_L_law_740 d_L_law_741 d_L_law_742 d_L_law_743 d_L_law_744 (by decide) (by omega) (by omega) ?_
  refine la_callC (As := [.int (xs (5 * k + 1)), .int (xs (5 * k + 2))]) (rest := []) (d := 0 + 2) h d_L_law_745 l_L_87 g_K_mapping rfl (by decide) (c_K_mapping ) rfl rfl (Nat.le_of_ble_eq_true rfl) ?_
  refine la_m h d_L_law_748 ?_
  refine la_arg (n := 5 * k) (j := 1) h d_L_law_749 d_L_law_750 d_L_law_751 d_L_law_752 d_L_law_753 (by decide) (by omega) (by omega) ?_
  refine la_arg (n := 5 * k) (j := 2) h d_L_law_754 d_L_law_755 d_L_law_756 d_L_law_757 d_L_law_758 (by decide) (by omega) (by omega) ?_
  refine la_callR (As := [.int (xs (5 * k + 1)), .int (xs (5 * k + 2))]) (rest := [.int (cMapping u (xs (5 * k + 1)) (xs (5 * k + 2)))]) (d := 0 + 1) h d_L_law_759 l_L_90 g_R_mapping rfl (by decide) (c_R_mapping ) rfl rfl (Nat.le_of_ble_eq_true rfl) ?_
  refine la_eq h d_L_law_762 (mapping_ok hR).symm ?_
  exact hE _ _ (hR.mono (by omega) (by omega))
/-- call 17: heirs -/
theorem lc_17 (h : LOk p e s m below meth c l D cI cB cT ad1 ad2 b L xs) (hk : 5 * k + 5 ≤ L) (hL : L ≤ 2560) (hR : Rel (20 * k + 1) k v u) (hE : ∀ u' v', Rel (20 * (k + 1) + 1) (k + 1) v' u' → LA p e s m below meth c l D cI cB cT ad1 ad2 b 846 (nI (5 * k)) [] u' v') : LA p e s m below meth c l D cI cB cT ad1 ad2 b 767 (nI (5 * k)) [] u v := by
  refine la_x h d_L_law_767 ?_
  refine la_arg (n := 5 * k) (j := 1) h d_L_law_768 d_L_law_769 d_L_law_770 d_L_law_771 d_L_law_772 (by decide) (by omega) (by omega) ?_
  refine la_arg (n := 5 * k) (j := 2) h d_L_law_773 d_L_law_774 d_L_law_775 d_L_law_776 d_L_law_777 (by decide) (by omega) (by omega) ?_
  refine la_callC (As := [.int (xs (5 * k + 1)), .int (xs (5 * k + 2))]) (rest := []) (d := 0 + 2) h d_L_law_778 l_L_91 g_K_heirs rfl (by decide) (c_K_heirs hR.ci) rfl rfl (Nat.le_of_ble_eq_true rfl) ?_
  refine la_m h d_L_law_781 ?_
  refine la_arg (n := 5 * k) (j := 1) h d_L_law_782 d_L_law_783 d_L_law_784 d_L_law_785 d_L_law_786 (by decide) (by omega) (by omega) ?_
  refine la_arg (n := 5 * k) (j := 2) h d_L_law_787 d_L_law_788 d_L_law_789 d_L_law_790 d_L_law_791 (by decide) (by omega) (by omega) ?_
  refine la_callR (As := [.int (xs (5 * k + 1)), .int (xs (5 * k + 2))]) (rest := [.int (cHeirs u (xs (5 * k + 1)) (xs (5 * k + 2)))]) (d := 0 + 2) h d_L_law_792 l_L_94 g_R_heirs rfl (by decide) (c_R_heirs hR.ri) rfl rfl (Nat.le_of_ble_eq_true rfl) ?_
  refine la_eq h d_L_law_795 (heirs_ok hR).symm ?_
  exact hE _ _ (hR.mono (by omega) (by omega))
/-- call 18: waiting -/
theorem lc_18 (h : LOk p e s m below meth c l D cI cB cT ad1 ad2 b L xs) (hk : 5 * k + 5 ≤ L) (hL : L ≤ 2560) (hR : Rel (20 * k + 1) k v u) (hE : ∀ u' v', Rel (20 * (k + 1) + 1) (k + 1) v' u' → LA p e s m below meth c l D cI cB cT ad1 ad2 b 846 (nI (5 * k)) [] u' v') : LA p e s m below meth c l D cI cB cT ad1 ad2 b 800 (nI (5 * k)) [] u v := by
  refine la_x h d_L_law_800 ?_
  refine la_arg (n := 5 * k) (j := 1) h d_L_law_801 d_L_law_802 d_L_law_803 d_L_law_804 d_L_law_805 (by decide) (by omega) (by omega) ?_
  refine la_callC (As := [.int (xs (5 * k + 1))]) (rest := []) (d := 0 + 1) h d_L_law_806 l_L_95 g_K_waiting rfl (by decide) (c_K_waiting ) rfl rfl (Nat.le_of_ble_eq_true rfl) ?_
  refine la_m h d_L_law_809 ?_
  refine la_arg (n := 5 * k) (j := 1) h d_L_law_810 d_L_law_811 d_L_law_812 d_L_law_813 d_L_law_814 (by decide) (by omega) (by omega) ?_
  refine la_callR (As := [.int (xs (5 * k + 1))]) (rest := [.int (cWaiting u (xs (5 * k + 1)))]) (d := 0 + 1) h d_L_law_815 l_L_98 g_R_waiting rfl (by decide) (c_R_waiting ) rfl rfl (Nat.le_of_ble_eq_true rfl) ?_
  refine la_eq h d_L_law_818 (waiting_ok hR).symm ?_
  exact hE _ _ (hR.mono (by omega) (by omega))
/-- call 19: word -/
theorem lc_19 (h : LOk p e s m below meth c l D cI cB cT ad1 ad2 b L xs) (hk : 5 * k + 5 ≤ L) (hL : L ≤ 2560) (hR : Rel (20 * k + 1) k v u) (hE : ∀ u' v', Rel (20 * (k + 1) + 1) (k + 1) v' u' → LA p e s m below meth c l D cI cB cT ad1 ad2 b 846 (nI (5 * k)) [] u' v') : LA p e s m below meth c l D cI cB cT ad1 ad2 b 823 (nI (5 * k)) [] u v := by
  refine la_x h d_L_law_823 ?_
  refine la_arg (n := 5 * k) (j := 1) h d_L_law_824 d_L_law_825 d_L_law_826 d_L_law_827 d_L_law_828 (by decide) (by omega) (by omega) ?_
  refine la_callC (As := [.int (xs (5 * k + 1))]) (rest := []) (d := 0) h d_L_law_829 l_L_99 g_K_word rfl (by decide) (c_K_word ) rfl rfl (Nat.le_of_ble_eq_true rfl) ?_
  refine la_m h d_L_law_832 ?_
  refine la_arg (n := 5 * k) (j := 1) h d_L_law_833 d_L_law_834 d_L_law_835 d_L_law_836 d_L_law_837 (by decide) (by omega) (by omega) ?_
  refine la_callR (As := [.int (xs (5 * k + 1))]) (rest := [.int (cWord u (xs (5 * k + 1)))]) (d := 0) h d_L_law_838 l_L_102 g_R_word rfl (by decide) (c_R_word ) rfl rfl (Nat.le_of_ble_eq_true rfl) ?_
  refine la_eq h d_L_law_841 (word_ok hR).symm ?_
  exact hE _ _ (hR.mono (by omega) (by omega))
end KLC
