/-! the law: its loop over the script -/
section LWP
variable {N i : Nat} {xs : Nat → Int32} {Q : Option Int32 → Mem → Prop} {M : Mem} {S : SS}
abbrev ALw (N : Nat) (xs : Nat → Int32) (Q : Option Int32 → Mem → Prop) (pc : Nat) (L : List (Option Value)) (st : List Value) (M : Mem) : Prop := AW (some (N, xs)) RL cL_law 4 (some .boolean) 61 Q pc L st M
theorem law_arg {pc j : Nat} {n : Int} {st : List Value} (hN : N ≤ 3072) (hj : i + j < N) (hv : Int32.ofInt n = nI j) (d0 : decode cL_law pc = .ok (.aload_n 0, 1)) (d1 : decode cL_law (pc + 1) = .ok (.iload_n 3, 1)) (d2 : decode cL_law (pc + 2) = .ok (.iconst n, 1)) (d3 : decode cL_law (pc + 3) = .ok (.iadd, 1)) (d4 : decode cL_law (pc + 4) = .ok (.iaload, 1)) (k : ALw N xs Q (pc + 5) [lR 3000, lR 0, lR 77, lI (nI i)] (.int (xs (i + j)) :: st) M) : ALw N xs Q pc [lR 3000, lR 0, lR 77, lI (nI i)] st M := by
  refine aw_aload_n d0 rfl rfl ?_
  refine aw_iload_n d1 rfl rfl ?_
  refine aw_iconst (v := nI j) d2 hv ?_
  refine aw_iadd d3 ?_
  rw [nI_add]
  refine aw_sld rfl d4 (vp_in_nI hj (by omega)) ?_
  rw [ix_nI (by omega)]
  exact k
theorem lc_0 (hN : N ≤ 3072) (hi : i + 6 ≤ N) (hW : WF S) (hC : RC M S) (hM : RM M S) (k : ∀ M' S', WF S' → RC M' S' → RM M' S' → ALw N xs Q 1001 [lR 3000, lR 0, lR 77, lI (nI i)] [] M') : ALw N xs Q 164 [lR 3000, lR 0, lR 77, lI (nI i)] [] M := by
  obtain ⟨x0, S', hW', hc, hm⟩ := op_person hW (xs (i + 1)) (xs (i + 2)) (xs (i + 3)) (xs (i + 4))
  refine aw_aload_n dL_law_164 rfl rfl ?_
  refine law_arg (j := 1) hN (by omega) (by decide) dL_law_165 dL_law_166 dL_law_167 dL_law_168 dL_law_169 ?_
  refine law_arg (j := 2) hN (by omega) (by decide) dL_law_170 dL_law_171 dL_law_172 dL_law_173 dL_law_174 ?_
  refine law_arg (j := 3) hN (by omega) (by decide) dL_law_175 dL_law_176 dL_law_177 dL_law_178 dL_law_179 ?_
  refine law_arg (j := 4) hN (by omega) (by decide) dL_law_180 dL_law_181 dL_law_182 dL_law_183 dL_law_184 ?_
  refine aw_callV (mi := iX9_person) (av := [.int (xs (i + 1)), .int (xs (i + 2)), .int (xs (i + 3)), .int (xs (i + 4))]) (st := []) dL_law_185 ml_L_13 kX9_person (by decide) ce_0 clX9 rfl rfl rfl (Nat.le_of_ble_eq_true rfl) (AM.mono (hc M hC) (fun r M1 h => ?_))
  obtain ⟨x1, rfl, rfl, hf1, hC1⟩ := h
  have hM1 : RM M1 S := hM.cg hf1
  refine aw_aload_n dL_law_188 rfl rfl ?_
  refine law_arg (j := 1) hN (by omega) (by decide) dL_law_189 dL_law_190 dL_law_191 dL_law_192 dL_law_193 ?_
  refine law_arg (j := 2) hN (by omega) (by decide) dL_law_194 dL_law_195 dL_law_196 dL_law_197 dL_law_198 ?_
  refine law_arg (j := 3) hN (by omega) (by decide) dL_law_199 dL_law_200 dL_law_201 dL_law_202 dL_law_203 ?_
  refine law_arg (j := 4) hN (by omega) (by decide) dL_law_204 dL_law_205 dL_law_206 dL_law_207 dL_law_208 ?_
  refine aw_callV (mi := iX10_person) (av := [.int (xs (i + 1)), .int (xs (i + 2)), .int (xs (i + 3)), .int (xs (i + 4))]) (st := [.int x1]) dL_law_209 ml_L_17 kX10_person (by decide) ce_77 clX10 rfl rfl rfl (Nat.le_of_ble_eq_true rfl) (AM.mono (hm M1 hM1) (fun r M2 h => ?_))
  obtain ⟨x2, rfl, rfl, hf2, hM2⟩ := h
  exact aw_icmp_eq (tgt := 1001) dL_law_212 (by decide) (fun _ => k M2 S' hW' (hC1.frC hf2) hM2) (fun z => absurd rfl z)
theorem lc_1 (hN : N ≤ 3072) (hi : i + 6 ≤ N) (hW : WF S) (hC : RC M S) (hM : RM M S) (k : ∀ M' S', WF S' → RC M' S' → RM M' S' → ALw N xs Q 1001 [lR 3000, lR 0, lR 77, lI (nI i)] [] M') : ALw N xs Q 217 [lR 3000, lR 0, lR 77, lI (nI i)] [] M := by
  obtain ⟨x0, S', hW', hc, hm⟩ := op_heels hW (xs (i + 1)) (xs (i + 2))
  refine aw_aload_n dL_law_217 rfl rfl ?_
  refine law_arg (j := 1) hN (by omega) (by decide) dL_law_218 dL_law_219 dL_law_220 dL_law_221 dL_law_222 ?_
  refine law_arg (j := 2) hN (by omega) (by decide) dL_law_223 dL_law_224 dL_law_225 dL_law_226 dL_law_227 ?_
  refine aw_callV (mi := iX9_heels) (av := [.int (xs (i + 1)), .int (xs (i + 2))]) (st := []) dL_law_228 ml_L_18 kX9_heels (by decide) ce_0 clX9 rfl rfl rfl (Nat.le_of_ble_eq_true rfl) (AM.mono (hc M hC) (fun r M1 h => ?_))
  obtain ⟨x1, rfl, rfl, hf1, hC1⟩ := h
  have hM1 : RM M1 S := hM.cg hf1
  refine aw_aload_n dL_law_231 rfl rfl ?_
  refine law_arg (j := 1) hN (by omega) (by decide) dL_law_232 dL_law_233 dL_law_234 dL_law_235 dL_law_236 ?_
  refine law_arg (j := 2) hN (by omega) (by decide) dL_law_237 dL_law_238 dL_law_239 dL_law_240 dL_law_241 ?_
  refine aw_callV (mi := iX10_heels) (av := [.int (xs (i + 1)), .int (xs (i + 2))]) (st := [.int x1]) dL_law_242 ml_L_22 kX10_heels (by decide) ce_77 clX10 rfl rfl rfl (Nat.le_of_ble_eq_true rfl) (AM.mono (hm M1 hM1) (fun r M2 h => ?_))
  obtain ⟨x2, rfl, rfl, hf2, hM2⟩ := h
  exact aw_icmp_eq (tgt := 1001) dL_law_245 (by decide) (fun _ => k M2 S' hW' (hC1.frC hf2) hM2) (fun z => absurd rfl z)
theorem lc_2 (hN : N ≤ 3072) (hi : i + 6 ≤ N) (hW : WF S) (hC : RC M S) (hM : RM M S) (k : ∀ M' S', WF S' → RC M' S' → RM M' S' → ALw N xs Q 1001 [lR 3000, lR 0, lR 77, lI (nI i)] [] M') : ALw N xs Q 250 [lR 3000, lR 0, lR 77, lI (nI i)] [] M := by
  obtain ⟨x0, S', hW', hc, hm⟩ := op_dies hW (xs (i + 1))
  refine aw_aload_n dL_law_250 rfl rfl ?_
  refine law_arg (j := 1) hN (by omega) (by decide) dL_law_251 dL_law_252 dL_law_253 dL_law_254 dL_law_255 ?_
  refine aw_callV (mi := iX9_dies) (av := [.int (xs (i + 1))]) (st := []) dL_law_256 ml_L_23 kX9_dies (by decide) ce_0 clX9 rfl rfl rfl (Nat.le_of_ble_eq_true rfl) (AM.mono (hc M hC) (fun r M1 h => ?_))
  obtain ⟨x1, rfl, rfl, hf1, hC1⟩ := h
  have hM1 : RM M1 S := hM.cg hf1
  refine aw_aload_n dL_law_259 rfl rfl ?_
  refine law_arg (j := 1) hN (by omega) (by decide) dL_law_260 dL_law_261 dL_law_262 dL_law_263 dL_law_264 ?_
  refine aw_callV (mi := iX10_dies) (av := [.int (xs (i + 1))]) (st := [.int x1]) dL_law_265 ml_L_27 kX10_dies (by decide) ce_77 clX10 rfl rfl rfl (Nat.le_of_ble_eq_true rfl) (AM.mono (hm M1 hM1) (fun r M2 h => ?_))
  obtain ⟨x2, rfl, rfl, hf2, hM2⟩ := h
  exact aw_icmp_eq (tgt := 1001) dL_law_268 (by decide) (fun _ => k M2 S' hW' (hC1.frC hf2) hM2) (fun z => absurd rfl z)
theorem lc_3 (hN : N ≤ 3072) (hi : i + 6 ≤ N) (hW : WF S) (hC : RC M S) (hM : RM M S) (k : ∀ M' S', WF S' → RC M' S' → RM M' S' → ALw N xs Q 1001 [lR 3000, lR 0, lR 77, lI (nI i)] [] M') : ALw N xs Q 273 [lR 3000, lR 0, lR 77, lI (nI i)] [] M := by
  obtain ⟨x0, S', hW', hc, hm⟩ := op_feed hW (xs (i + 1)) (xs (i + 2)) (xs (i + 3)) (xs (i + 4)) (xs (i + 5))
  refine aw_aload_n dL_law_273 rfl rfl ?_
  refine law_arg (j := 1) hN (by omega) (by decide) dL_law_274 dL_law_275 dL_law_276 dL_law_277 dL_law_278 ?_
  refine law_arg (j := 2) hN (by omega) (by decide) dL_law_279 dL_law_280 dL_law_281 dL_law_282 dL_law_283 ?_
  refine law_arg (j := 3) hN (by omega) (by decide) dL_law_284 dL_law_285 dL_law_286 dL_law_287 dL_law_288 ?_
  refine law_arg (j := 4) hN (by omega) (by decide) dL_law_289 dL_law_290 dL_law_291 dL_law_292 dL_law_293 ?_
  refine law_arg (j := 5) hN (by omega) (by decide) dL_law_294 dL_law_295 dL_law_296 dL_law_297 dL_law_298 ?_
  refine aw_callV (mi := iX9_feed) (av := [.int (xs (i + 1)), .int (xs (i + 2)), .int (xs (i + 3)), .int (xs (i + 4)), .int (xs (i + 5))]) (st := []) dL_law_299 ml_L_28 kX9_feed (by decide) ce_0 clX9 rfl rfl rfl (Nat.le_of_ble_eq_true rfl) (AM.mono (hc M hC) (fun r M1 h => ?_))
  obtain ⟨x1, rfl, rfl, hf1, hC1⟩ := h
  have hM1 : RM M1 S := hM.cg hf1
  refine aw_aload_n dL_law_302 rfl rfl ?_
  refine law_arg (j := 1) hN (by omega) (by decide) dL_law_303 dL_law_304 dL_law_305 dL_law_306 dL_law_307 ?_
  refine law_arg (j := 2) hN (by omega) (by decide) dL_law_308 dL_law_309 dL_law_310 dL_law_311 dL_law_312 ?_
  refine law_arg (j := 3) hN (by omega) (by decide) dL_law_313 dL_law_314 dL_law_315 dL_law_316 dL_law_317 ?_
  refine law_arg (j := 4) hN (by omega) (by decide) dL_law_318 dL_law_319 dL_law_320 dL_law_321 dL_law_322 ?_
  refine law_arg (j := 5) hN (by omega) (by decide) dL_law_323 dL_law_324 dL_law_325 dL_law_326 dL_law_327 ?_
  refine aw_callV (mi := iX10_feed) (av := [.int (xs (i + 1)), .int (xs (i + 2)), .int (xs (i + 3)), .int (xs (i + 4)), .int (xs (i + 5))]) (st := [.int x1]) dL_law_328 ml_L_32 kX10_feed (by decide) ce_77 clX10 rfl rfl rfl (Nat.le_of_ble_eq_true rfl) (AM.mono (hm M1 hM1) (fun r M2 h => ?_))
  obtain ⟨x2, rfl, rfl, hf2, hM2⟩ := h
  exact aw_icmp_eq (tgt := 1001) dL_law_331 (by decide) (fun _ => k M2 S' hW' (hC1.frC hf2) hM2) (fun z => absurd rfl z)
theorem lc_4 (hN : N ≤ 3072) (hi : i + 6 ≤ N) (hW : WF S) (hC : RC M S) (hM : RM M S) (k : ∀ M' S', WF S' → RC M' S' → RM M' S' → ALw N xs Q 1001 [lR 3000, lR 0, lR 77, lI (nI i)] [] M') : ALw N xs Q 336 [lR 3000, lR 0, lR 77, lI (nI i)] [] M := by
  obtain ⟨x0, S', hW', hc, hm⟩ := op_law hW (xs (i + 1)) (xs (i + 2))
  refine aw_aload_n dL_law_336 rfl rfl ?_
  refine law_arg (j := 1) hN (by omega) (by decide) dL_law_337 dL_law_338 dL_law_339 dL_law_340 dL_law_341 ?_
  refine law_arg (j := 2) hN (by omega) (by decide) dL_law_342 dL_law_343 dL_law_344 dL_law_345 dL_law_346 ?_
  refine aw_callV (mi := iX9_law) (av := [.int (xs (i + 1)), .int (xs (i + 2))]) (st := []) dL_law_347 ml_L_33 kX9_law (by decide) ce_0 clX9 rfl rfl rfl (Nat.le_of_ble_eq_true rfl) (AM.mono (hc M hC) (fun r M1 h => ?_))
  obtain ⟨x1, rfl, rfl, hf1, hC1⟩ := h
  have hM1 : RM M1 S := hM.cg hf1
  refine aw_aload_n dL_law_350 rfl rfl ?_
  refine law_arg (j := 1) hN (by omega) (by decide) dL_law_351 dL_law_352 dL_law_353 dL_law_354 dL_law_355 ?_
  refine law_arg (j := 2) hN (by omega) (by decide) dL_law_356 dL_law_357 dL_law_358 dL_law_359 dL_law_360 ?_
  refine aw_callV (mi := iX10_law) (av := [.int (xs (i + 1)), .int (xs (i + 2))]) (st := [.int x1]) dL_law_361 ml_L_37 kX10_law (by decide) ce_77 clX10 rfl rfl rfl (Nat.le_of_ble_eq_true rfl) (AM.mono (hm M1 hM1) (fun r M2 h => ?_))
  obtain ⟨x2, rfl, rfl, hf2, hM2⟩ := h
  exact aw_icmp_eq (tgt := 1001) dL_law_364 (by decide) (fun _ => k M2 S' hW' (hC1.frC hf2) hM2) (fun z => absurd rfl z)
theorem lc_5 (hN : N ≤ 3072) (hi : i + 6 ≤ N) (hW : WF S) (hC : RC M S) (hM : RM M S) (k : ∀ M' S', WF S' → RC M' S' → RM M' S' → ALw N xs Q 1001 [lR 3000, lR 0, lR 77, lI (nI i)] [] M') : ALw N xs Q 369 [lR 3000, lR 0, lR 77, lI (nI i)] [] M := by
  obtain ⟨x0, S', hW', hc, hm⟩ := op_tall hW (xs (i + 1))
  refine aw_aload_n dL_law_369 rfl rfl ?_
  refine law_arg (j := 1) hN (by omega) (by decide) dL_law_370 dL_law_371 dL_law_372 dL_law_373 dL_law_374 ?_
  refine aw_callV (mi := iX9_tall) (av := [.int (xs (i + 1))]) (st := []) dL_law_375 ml_L_38 kX9_tall (by decide) ce_0 clX9 rfl rfl rfl (Nat.le_of_ble_eq_true rfl) (AM.mono (hc M hC) (fun r M1 h => ?_))
  obtain ⟨x1, rfl, rfl, hf1, hC1⟩ := h
  have hM1 : RM M1 S := hM.cg hf1
  refine aw_aload_n dL_law_378 rfl rfl ?_
  refine law_arg (j := 1) hN (by omega) (by decide) dL_law_379 dL_law_380 dL_law_381 dL_law_382 dL_law_383 ?_
  refine aw_callV (mi := iX10_tall) (av := [.int (xs (i + 1))]) (st := [.int x1]) dL_law_384 ml_L_42 kX10_tall (by decide) ce_77 clX10 rfl rfl rfl (Nat.le_of_ble_eq_true rfl) (AM.mono (hm M1 hM1) (fun r M2 h => ?_))
  obtain ⟨x2, rfl, rfl, hf2, hM2⟩ := h
  exact aw_icmp_eq (tgt := 1001) dL_law_387 (by decide) (fun _ => k M2 S' hW' (hC1.frC hf2) hM2) (fun z => absurd rfl z)
theorem lc_6 (hN : N ≤ 3072) (hi : i + 6 ≤ N) (hW : WF S) (hC : RC M S) (hM : RM M S) (k : ∀ M' S', WF S' → RC M' S' → RM M' S' → ALw N xs Q 1001 [lR 3000, lR 0, lR 77, lI (nI i)] [] M') : ALw N xs Q 392 [lR 3000, lR 0, lR 77, lI (nI i)] [] M := by
  obtain ⟨x0, S', hW', hc, hm⟩ := op_top hW 
  refine aw_aload_n dL_law_392 rfl rfl ?_
  refine aw_callV (mi := iX9_top) (av := []) (st := []) dL_law_393 ml_L_43 kX9_top (by decide) ce_0 clX9 rfl rfl rfl (Nat.le_of_ble_eq_true rfl) (AM.mono (hc M hC) (fun r M1 h => ?_))
  obtain ⟨x1, rfl, rfl, hf1, hC1⟩ := h
  have hM1 : RM M1 S := hM.cg hf1
  refine aw_aload_n dL_law_396 rfl rfl ?_
  refine aw_callV (mi := iX10_top) (av := []) (st := [.int x1]) dL_law_397 ml_L_47 kX10_top (by decide) ce_77 clX10 rfl rfl rfl (Nat.le_of_ble_eq_true rfl) (AM.mono (hm M1 hM1) (fun r M2 h => ?_))
  obtain ⟨x2, rfl, rfl, hf2, hM2⟩ := h
  exact aw_icmp_eq (tgt := 1001) dL_law_400 (by decide) (fun _ => k M2 S' hW' (hC1.frC hf2) hM2) (fun z => absurd rfl z)
theorem lc_7 (hN : N ≤ 3072) (hi : i + 6 ≤ N) (hW : WF S) (hC : RC M S) (hM : RM M S) (k : ∀ M' S', WF S' → RC M' S' → RM M' S' → ALw N xs Q 1001 [lR 3000, lR 0, lR 77, lI (nI i)] [] M') : ALw N xs Q 405 [lR 3000, lR 0, lR 77, lI (nI i)] [] M := by
  obtain ⟨x0, S', hW', hc, hm⟩ := op_step hW (xs (i + 1)) (xs (i + 2))
  refine aw_aload_n dL_law_405 rfl rfl ?_
  refine law_arg (j := 1) hN (by omega) (by decide) dL_law_406 dL_law_407 dL_law_408 dL_law_409 dL_law_410 ?_
  refine law_arg (j := 2) hN (by omega) (by decide) dL_law_411 dL_law_412 dL_law_413 dL_law_414 dL_law_415 ?_
  refine aw_callV (mi := iX9_step) (av := [.int (xs (i + 1)), .int (xs (i + 2))]) (st := []) dL_law_416 ml_L_48 kX9_step (by decide) ce_0 clX9 rfl rfl rfl (Nat.le_of_ble_eq_true rfl) (AM.mono (hc M hC) (fun r M1 h => ?_))
  obtain ⟨x1, rfl, rfl, hf1, hC1⟩ := h
  have hM1 : RM M1 S := hM.cg hf1
  refine aw_aload_n dL_law_419 rfl rfl ?_
  refine law_arg (j := 1) hN (by omega) (by decide) dL_law_420 dL_law_421 dL_law_422 dL_law_423 dL_law_424 ?_
  refine law_arg (j := 2) hN (by omega) (by decide) dL_law_425 dL_law_426 dL_law_427 dL_law_428 dL_law_429 ?_
  refine aw_callV (mi := iX10_step) (av := [.int (xs (i + 1)), .int (xs (i + 2))]) (st := [.int x1]) dL_law_430 ml_L_51 kX10_step (by decide) ce_77 clX10 rfl rfl rfl (Nat.le_of_ble_eq_true rfl) (AM.mono (hm M1 hM1) (fun r M2 h => ?_))
  obtain ⟨x2, rfl, rfl, hf2, hM2⟩ := h
  exact aw_icmp_eq (tgt := 1001) dL_law_433 (by decide) (fun _ => k M2 S' hW' (hC1.frC hf2) hM2) (fun z => absurd rfl z)
theorem lc_8 (hN : N ≤ 3072) (hi : i + 6 ≤ N) (hW : WF S) (hC : RC M S) (hM : RM M S) (k : ∀ M' S', WF S' → RC M' S' → RM M' S' → ALw N xs Q 1001 [lR 3000, lR 0, lR 77, lI (nI i)] [] M') : ALw N xs Q 438 [lR 3000, lR 0, lR 77, lI (nI i)] [] M := by
  obtain ⟨x0, S', hW', hc, hm⟩ := op_oath hW (xs (i + 1)) (xs (i + 2))
  refine aw_aload_n dL_law_438 rfl rfl ?_
  refine law_arg (j := 1) hN (by omega) (by decide) dL_law_439 dL_law_440 dL_law_441 dL_law_442 dL_law_443 ?_
  refine law_arg (j := 2) hN (by omega) (by decide) dL_law_444 dL_law_445 dL_law_446 dL_law_447 dL_law_448 ?_
  refine aw_callV (mi := iX9_oath) (av := [.int (xs (i + 1)), .int (xs (i + 2))]) (st := []) dL_law_449 ml_L_52 kX9_oath (by decide) ce_0 clX9 rfl rfl rfl (Nat.le_of_ble_eq_true rfl) (AM.mono (hc M hC) (fun r M1 h => ?_))
  obtain ⟨x1, rfl, rfl, hf1, hC1⟩ := h
  have hM1 : RM M1 S := hM.cg hf1
  refine aw_aload_n dL_law_452 rfl rfl ?_
  refine law_arg (j := 1) hN (by omega) (by decide) dL_law_453 dL_law_454 dL_law_455 dL_law_456 dL_law_457 ?_
  refine law_arg (j := 2) hN (by omega) (by decide) dL_law_458 dL_law_459 dL_law_460 dL_law_461 dL_law_462 ?_
  refine aw_callV (mi := iX10_oath) (av := [.int (xs (i + 1)), .int (xs (i + 2))]) (st := [.int x1]) dL_law_463 ml_L_55 kX10_oath (by decide) ce_77 clX10 rfl rfl rfl (Nat.le_of_ble_eq_true rfl) (AM.mono (hm M1 hM1) (fun r M2 h => ?_))
  obtain ⟨x2, rfl, rfl, hf2, hM2⟩ := h
  exact aw_icmp_eq (tgt := 1001) dL_law_466 (by decide) (fun _ => k M2 S' hW' (hC1.frC hf2) hM2) (fun z => absurd rfl z)
theorem lc_9 (hN : N ≤ 3072) (hi : i + 6 ≤ N) (hW : WF S) (hC : RC M S) (hM : RM M S) (k : ∀ M' S', WF S' → RC M' S' → RM M' S' → ALw N xs Q 1001 [lR 3000, lR 0, lR 77, lI (nI i)] [] M') : ALw N xs Q 471 [lR 3000, lR 0, lR 77, lI (nI i)] [] M := by
  obtain ⟨x0, S', hW', hc, hm⟩ := op_swear hW (xs (i + 1)) (xs (i + 2))
  refine aw_aload_n dL_law_471 rfl rfl ?_
  refine law_arg (j := 1) hN (by omega) (by decide) dL_law_472 dL_law_473 dL_law_474 dL_law_475 dL_law_476 ?_
  refine law_arg (j := 2) hN (by omega) (by decide) dL_law_477 dL_law_478 dL_law_479 dL_law_480 dL_law_481 ?_
  refine aw_callV (mi := iX9_swear) (av := [.int (xs (i + 1)), .int (xs (i + 2))]) (st := []) dL_law_482 ml_L_56 kX9_swear (by decide) ce_0 clX9 rfl rfl rfl (Nat.le_of_ble_eq_true rfl) (AM.mono (hc M hC) (fun r M1 h => ?_))
  obtain ⟨x1, rfl, rfl, hf1, hC1⟩ := h
  have hM1 : RM M1 S := hM.cg hf1
  refine aw_aload_n dL_law_485 rfl rfl ?_
  refine law_arg (j := 1) hN (by omega) (by decide) dL_law_486 dL_law_487 dL_law_488 dL_law_489 dL_law_490 ?_
  refine law_arg (j := 2) hN (by omega) (by decide) dL_law_491 dL_law_492 dL_law_493 dL_law_494 dL_law_495 ?_
  refine aw_callV (mi := iX10_swear) (av := [.int (xs (i + 1)), .int (xs (i + 2))]) (st := [.int x1]) dL_law_496 ml_L_59 kX10_swear (by decide) ce_77 clX10 rfl rfl rfl (Nat.le_of_ble_eq_true rfl) (AM.mono (hm M1 hM1) (fun r M2 h => ?_))
  obtain ⟨x2, rfl, rfl, hf2, hM2⟩ := h
  exact aw_icmp_eq (tgt := 1001) dL_law_499 (by decide) (fun _ => k M2 S' hW' (hC1.frC hf2) hM2) (fun z => absurd rfl z)
theorem lc_10 (hN : N ≤ 3072) (hi : i + 6 ≤ N) (hW : WF S) (hC : RC M S) (hM : RM M S) (k : ∀ M' S', WF S' → RC M' S' → RM M' S' → ALw N xs Q 1001 [lR 3000, lR 0, lR 77, lI (nI i)] [] M') : ALw N xs Q 504 [lR 3000, lR 0, lR 77, lI (nI i)] [] M := by
  obtain ⟨x0, S', hW', hc, hm⟩ := op_holds hW (xs (i + 1))
  refine aw_aload_n dL_law_504 rfl rfl ?_
  refine law_arg (j := 1) hN (by omega) (by decide) dL_law_505 dL_law_506 dL_law_507 dL_law_508 dL_law_509 ?_
  refine aw_callV (mi := iX9_holds) (av := [.int (xs (i + 1))]) (st := []) dL_law_510 ml_L_60 kX9_holds (by decide) ce_0 clX9 rfl rfl rfl (Nat.le_of_ble_eq_true rfl) (AM.mono (hc M hC) (fun r M1 h => ?_))
  obtain ⟨x1, rfl, rfl, hf1, hC1⟩ := h
  have hM1 : RM M1 S := hM.cg hf1
  refine aw_aload_n dL_law_513 rfl rfl ?_
  refine law_arg (j := 1) hN (by omega) (by decide) dL_law_514 dL_law_515 dL_law_516 dL_law_517 dL_law_518 ?_
  refine aw_callV (mi := iX10_holds) (av := [.int (xs (i + 1))]) (st := [.int x1]) dL_law_519 ml_L_63 kX10_holds (by decide) ce_77 clX10 rfl rfl rfl (Nat.le_of_ble_eq_true rfl) (AM.mono (hm M1 hM1) (fun r M2 h => ?_))
  obtain ⟨x2, rfl, rfl, hf2, hM2⟩ := h
  exact aw_icmp_eq (tgt := 1001) dL_law_522 (by decide) (fun _ => k M2 S' hW' (hC1.frC hf2) hM2) (fun z => absurd rfl z)
theorem lc_11 (hN : N ≤ 3072) (hi : i + 6 ≤ N) (hW : WF S) (hC : RC M S) (hM : RM M S) (k : ∀ M' S', WF S' → RC M' S' → RM M' S' → ALw N xs Q 1001 [lR 3000, lR 0, lR 77, lI (nI i)] [] M') : ALw N xs Q 527 [lR 3000, lR 0, lR 77, lI (nI i)] [] M := by
  obtain ⟨x0, S', hW', hc, hm⟩ := op_year hW (xs (i + 1))
  refine aw_aload_n dL_law_527 rfl rfl ?_
  refine law_arg (j := 1) hN (by omega) (by decide) dL_law_528 dL_law_529 dL_law_530 dL_law_531 dL_law_532 ?_
  refine aw_callV (mi := iX9_year) (av := [.int (xs (i + 1))]) (st := []) dL_law_533 ml_L_64 kX9_year (by decide) ce_0 clX9 rfl rfl rfl (Nat.le_of_ble_eq_true rfl) (AM.mono (hc M hC) (fun r M1 h => ?_))
  obtain ⟨x1, rfl, rfl, hf1, hC1⟩ := h
  have hM1 : RM M1 S := hM.cg hf1
  refine aw_aload_n dL_law_536 rfl rfl ?_
  refine law_arg (j := 1) hN (by omega) (by decide) dL_law_537 dL_law_538 dL_law_539 dL_law_540 dL_law_541 ?_
  refine aw_callV (mi := iX10_year) (av := [.int (xs (i + 1))]) (st := [.int x1]) dL_law_542 ml_L_67 kX10_year (by decide) ce_77 clX10 rfl rfl rfl (Nat.le_of_ble_eq_true rfl) (AM.mono (hm M1 hM1) (fun r M2 h => ?_))
  obtain ⟨x2, rfl, rfl, hf2, hM2⟩ := h
  exact aw_icmp_eq (tgt := 1001) dL_law_545 (by decide) (fun _ => k M2 S' hW' (hC1.frC hf2) hM2) (fun z => absurd rfl z)
theorem lc_12 (hN : N ≤ 3072) (hi : i + 6 ≤ N) (hW : WF S) (hC : RC M S) (hM : RM M S) (k : ∀ M' S', WF S' → RC M' S' → RM M' S' → ALw N xs Q 1001 [lR 3000, lR 0, lR 77, lI (nI i)] [] M') : ALw N xs Q 550 [lR 3000, lR 0, lR 77, lI (nI i)] [] M := by
  obtain ⟨x0, S', hW', hc, hm⟩ := op_years hW (xs (i + 1))
  refine aw_aload_n dL_law_550 rfl rfl ?_
  refine law_arg (j := 1) hN (by omega) (by decide) dL_law_551 dL_law_552 dL_law_553 dL_law_554 dL_law_555 ?_
  refine aw_callV (mi := iX9_years) (av := [.int (xs (i + 1))]) (st := []) dL_law_556 ml_L_68 kX9_years (by decide) ce_0 clX9 rfl rfl rfl (Nat.le_of_ble_eq_true rfl) (AM.mono (hc M hC) (fun r M1 h => ?_))
  obtain ⟨x1, rfl, rfl, hf1, hC1⟩ := h
  have hM1 : RM M1 S := hM.cg hf1
  refine aw_aload_n dL_law_559 rfl rfl ?_
  refine law_arg (j := 1) hN (by omega) (by decide) dL_law_560 dL_law_561 dL_law_562 dL_law_563 dL_law_564 ?_
  refine aw_callV (mi := iX10_years) (av := [.int (xs (i + 1))]) (st := [.int x1]) dL_law_565 ml_L_71 kX10_years (by decide) ce_77 clX10 rfl rfl rfl (Nat.le_of_ble_eq_true rfl) (AM.mono (hm M1 hM1) (fun r M2 h => ?_))
  obtain ⟨x2, rfl, rfl, hf2, hM2⟩ := h
  exact aw_icmp_eq (tgt := 1001) dL_law_568 (by decide) (fun _ => k M2 S' hW' (hC1.frC hf2) hM2) (fun z => absurd rfl z)
theorem lc_13 (hN : N ≤ 3072) (hi : i + 6 ≤ N) (hW : WF S) (hC : RC M S) (hM : RM M S) (k : ∀ M' S', WF S' → RC M' S' → RM M' S' → ALw N xs Q 1001 [lR 3000, lR 0, lR 77, lI (nI i)] [] M') : ALw N xs Q 573 [lR 3000, lR 0, lR 77, lI (nI i)] [] M := by
  obtain ⟨x0, S', hW', hc, hm⟩ := op_tried hW (xs (i + 1)) (xs (i + 2))
  refine aw_aload_n dL_law_573 rfl rfl ?_
  refine law_arg (j := 1) hN (by omega) (by decide) dL_law_574 dL_law_575 dL_law_576 dL_law_577 dL_law_578 ?_
  refine law_arg (j := 2) hN (by omega) (by decide) dL_law_579 dL_law_580 dL_law_581 dL_law_582 dL_law_583 ?_
  refine aw_callV (mi := iX9_tried) (av := [.int (xs (i + 1)), .int (xs (i + 2))]) (st := []) dL_law_584 ml_L_72 kX9_tried (by decide) ce_0 clX9 rfl rfl rfl (Nat.le_of_ble_eq_true rfl) (AM.mono (hc M hC) (fun r M1 h => ?_))
  obtain ⟨x1, rfl, rfl, hf1, hC1⟩ := h
  have hM1 : RM M1 S := hM.cg hf1
  refine aw_aload_n dL_law_587 rfl rfl ?_
  refine law_arg (j := 1) hN (by omega) (by decide) dL_law_588 dL_law_589 dL_law_590 dL_law_591 dL_law_592 ?_
  refine law_arg (j := 2) hN (by omega) (by decide) dL_law_593 dL_law_594 dL_law_595 dL_law_596 dL_law_597 ?_
  refine aw_callV (mi := iX10_tried) (av := [.int (xs (i + 1)), .int (xs (i + 2))]) (st := [.int x1]) dL_law_598 ml_L_75 kX10_tried (by decide) ce_77 clX10 rfl rfl rfl (Nat.le_of_ble_eq_true rfl) (AM.mono (hm M1 hM1) (fun r M2 h => ?_))
  obtain ⟨x2, rfl, rfl, hf2, hM2⟩ := h
  exact aw_icmp_eq (tgt := 1001) dL_law_601 (by decide) (fun _ => k M2 S' hW' (hC1.frC hf2) hM2) (fun z => absurd rfl z)
theorem lc_14 (hN : N ≤ 3072) (hi : i + 6 ≤ N) (hW : WF S) (hC : RC M S) (hM : RM M S) (k : ∀ M' S', WF S' → RC M' S' → RM M' S' → ALw N xs Q 1001 [lR 3000, lR 0, lR 77, lI (nI i)] [] M') : ALw N xs Q 606 [lR 3000, lR 0, lR 77, lI (nI i)] [] M := by
  obtain ⟨x0, S', hW', hc, hm⟩ := op_chain hW (xs (i + 1)) (xs (i + 2))
  refine aw_aload_n dL_law_606 rfl rfl ?_
  refine law_arg (j := 1) hN (by omega) (by decide) dL_law_607 dL_law_608 dL_law_609 dL_law_610 dL_law_611 ?_
  refine law_arg (j := 2) hN (by omega) (by decide) dL_law_612 dL_law_613 dL_law_614 dL_law_615 dL_law_616 ?_
  refine aw_callV (mi := iX9_chain) (av := [.int (xs (i + 1)), .int (xs (i + 2))]) (st := []) dL_law_617 ml_L_76 kX9_chain (by decide) ce_0 clX9 rfl rfl rfl (Nat.le_of_ble_eq_true rfl) (AM.mono (hc M hC) (fun r M1 h => ?_))
  obtain ⟨x1, rfl, rfl, hf1, hC1⟩ := h
  have hM1 : RM M1 S := hM.cg hf1
  refine aw_aload_n dL_law_620 rfl rfl ?_
  refine law_arg (j := 1) hN (by omega) (by decide) dL_law_621 dL_law_622 dL_law_623 dL_law_624 dL_law_625 ?_
  refine law_arg (j := 2) hN (by omega) (by decide) dL_law_626 dL_law_627 dL_law_628 dL_law_629 dL_law_630 ?_
  refine aw_callV (mi := iX10_chain) (av := [.int (xs (i + 1)), .int (xs (i + 2))]) (st := [.int x1]) dL_law_631 ml_L_79 kX10_chain (by decide) ce_77 clX10 rfl rfl rfl (Nat.le_of_ble_eq_true rfl) (AM.mono (hm M1 hM1) (fun r M2 h => ?_))
  obtain ⟨x2, rfl, rfl, hf2, hM2⟩ := h
  exact aw_icmp_eq (tgt := 1001) dL_law_634 (by decide) (fun _ => k M2 S' hW' (hC1.frC hf2) hM2) (fun z => absurd rfl z)
theorem lc_15 (hN : N ≤ 3072) (hi : i + 6 ≤ N) (hW : WF S) (hC : RC M S) (hM : RM M S) (k : ∀ M' S', WF S' → RC M' S' → RM M' S' → ALw N xs Q 1001 [lR 3000, lR 0, lR 77, lI (nI i)] [] M') : ALw N xs Q 639 [lR 3000, lR 0, lR 77, lI (nI i)] [] M := by
  obtain ⟨x0, S', hW', hc, hm⟩ := op_safe hW (xs (i + 1)) (xs (i + 2)) (xs (i + 3))
  refine aw_aload_n dL_law_639 rfl rfl ?_
  refine law_arg (j := 1) hN (by omega) (by decide) dL_law_640 dL_law_641 dL_law_642 dL_law_643 dL_law_644 ?_
  refine law_arg (j := 2) hN (by omega) (by decide) dL_law_645 dL_law_646 dL_law_647 dL_law_648 dL_law_649 ?_
  refine law_arg (j := 3) hN (by omega) (by decide) dL_law_650 dL_law_651 dL_law_652 dL_law_653 dL_law_654 ?_
  refine aw_callV (mi := iX9_safe) (av := [.int (xs (i + 1)), .int (xs (i + 2)), .int (xs (i + 3))]) (st := []) dL_law_655 ml_L_80 kX9_safe (by decide) ce_0 clX9 rfl rfl rfl (Nat.le_of_ble_eq_true rfl) (AM.mono (hc M hC) (fun r M1 h => ?_))
  obtain ⟨x1, rfl, rfl, hf1, hC1⟩ := h
  have hM1 : RM M1 S := hM.cg hf1
  refine aw_aload_n dL_law_658 rfl rfl ?_
  refine law_arg (j := 1) hN (by omega) (by decide) dL_law_659 dL_law_660 dL_law_661 dL_law_662 dL_law_663 ?_
  refine law_arg (j := 2) hN (by omega) (by decide) dL_law_664 dL_law_665 dL_law_666 dL_law_667 dL_law_668 ?_
  refine law_arg (j := 3) hN (by omega) (by decide) dL_law_669 dL_law_670 dL_law_671 dL_law_672 dL_law_673 ?_
  refine aw_callV (mi := iX10_safe) (av := [.int (xs (i + 1)), .int (xs (i + 2)), .int (xs (i + 3))]) (st := [.int x1]) dL_law_674 ml_L_84 kX10_safe (by decide) ce_77 clX10 rfl rfl rfl (Nat.le_of_ble_eq_true rfl) (AM.mono (hm M1 hM1) (fun r M2 h => ?_))
  obtain ⟨x2, rfl, rfl, hf2, hM2⟩ := h
  exact aw_icmp_eq (tgt := 1001) dL_law_677 (by decide) (fun _ => k M2 S' hW' (hC1.frC hf2) hM2) (fun z => absurd rfl z)
theorem lc_16 (hN : N ≤ 3072) (hi : i + 6 ≤ N) (hW : WF S) (hC : RC M S) (hM : RM M S) (k : ∀ M' S', WF S' → RC M' S' → RM M' S' → ALw N xs Q 1001 [lR 3000, lR 0, lR 77, lI (nI i)] [] M') : ALw N xs Q 682 [lR 3000, lR 0, lR 77, lI (nI i)] [] M := by
  obtain ⟨x0, S', hW', hc, hm⟩ := op_cut hW (xs (i + 1))
  refine aw_aload_n dL_law_682 rfl rfl ?_
  refine law_arg (j := 1) hN (by omega) (by decide) dL_law_683 dL_law_684 dL_law_685 dL_law_686 dL_law_687 ?_
  refine aw_callV (mi := iX9_cut) (av := [.int (xs (i + 1))]) (st := []) dL_law_688 ml_L_85 kX9_cut (by decide) ce_0 clX9 rfl rfl rfl (Nat.le_of_ble_eq_true rfl) (AM.mono (hc M hC) (fun r M1 h => ?_))
  obtain ⟨x1, rfl, rfl, hf1, hC1⟩ := h
  have hM1 : RM M1 S := hM.cg hf1
  refine aw_aload_n dL_law_691 rfl rfl ?_
  refine law_arg (j := 1) hN (by omega) (by decide) dL_law_692 dL_law_693 dL_law_694 dL_law_695 dL_law_696 ?_
  refine aw_callV (mi := iX10_cut) (av := [.int (xs (i + 1))]) (st := [.int x1]) dL_law_697 ml_L_88 kX10_cut (by decide) ce_77 clX10 rfl rfl rfl (Nat.le_of_ble_eq_true rfl) (AM.mono (hm M1 hM1) (fun r M2 h => ?_))
  obtain ⟨x2, rfl, rfl, hf2, hM2⟩ := h
  exact aw_icmp_eq (tgt := 1001) dL_law_700 (by decide) (fun _ => k M2 S' hW' (hC1.frC hf2) hM2) (fun z => absurd rfl z)
theorem lc_17 (hN : N ≤ 3072) (hi : i + 6 ≤ N) (hW : WF S) (hC : RC M S) (hM : RM M S) (k : ∀ M' S', WF S' → RC M' S' → RM M' S' → ALw N xs Q 1001 [lR 3000, lR 0, lR 77, lI (nI i)] [] M') : ALw N xs Q 705 [lR 3000, lR 0, lR 77, lI (nI i)] [] M := by
  obtain ⟨x0, S', hW', hc, hm⟩ := op_soonest hW (xs (i + 1))
  refine aw_aload_n dL_law_705 rfl rfl ?_
  refine law_arg (j := 1) hN (by omega) (by decide) dL_law_706 dL_law_707 dL_law_708 dL_law_709 dL_law_710 ?_
  refine aw_callV (mi := iX9_soonest) (av := [.int (xs (i + 1))]) (st := []) dL_law_711 ml_L_89 kX9_soonest (by decide) ce_0 clX9 rfl rfl rfl (Nat.le_of_ble_eq_true rfl) (AM.mono (hc M hC) (fun r M1 h => ?_))
  obtain ⟨x1, rfl, rfl, hf1, hC1⟩ := h
  have hM1 : RM M1 S := hM.cg hf1
  refine aw_aload_n dL_law_714 rfl rfl ?_
  refine law_arg (j := 1) hN (by omega) (by decide) dL_law_715 dL_law_716 dL_law_717 dL_law_718 dL_law_719 ?_
  refine aw_callV (mi := iX10_soonest) (av := [.int (xs (i + 1))]) (st := [.int x1]) dL_law_720 ml_L_92 kX10_soonest (by decide) ce_77 clX10 rfl rfl rfl (Nat.le_of_ble_eq_true rfl) (AM.mono (hm M1 hM1) (fun r M2 h => ?_))
  obtain ⟨x2, rfl, rfl, hf2, hM2⟩ := h
  exact aw_icmp_eq (tgt := 1001) dL_law_723 (by decide) (fun _ => k M2 S' hW' (hC1.frC hf2) hM2) (fun z => absurd rfl z)
theorem lc_18 (hN : N ≤ 3072) (hi : i + 6 ≤ N) (hW : WF S) (hC : RC M S) (hM : RM M S) (k : ∀ M' S', WF S' → RC M' S' → RM M' S' → ALw N xs Q 1001 [lR 3000, lR 0, lR 77, lI (nI i)] [] M') : ALw N xs Q 728 [lR 3000, lR 0, lR 77, lI (nI i)] [] M := by
  obtain ⟨x0, S', hW', hc, hm⟩ := op_against hW (xs (i + 1)) (xs (i + 2)) (xs (i + 3)) (xs (i + 4))
  refine aw_aload_n dL_law_728 rfl rfl ?_
  refine law_arg (j := 1) hN (by omega) (by decide) dL_law_729 dL_law_730 dL_law_731 dL_law_732 dL_law_733 ?_
  refine law_arg (j := 2) hN (by omega) (by decide) dL_law_734 dL_law_735 dL_law_736 dL_law_737 dL_law_738 ?_
  refine law_arg (j := 3) hN (by omega) (by decide) dL_law_739 dL_law_740 dL_law_741 dL_law_742 dL_law_743 ?_
  refine law_arg (j := 4) hN (by omega) (by decide) dL_law_744 dL_law_745 dL_law_746 dL_law_747 dL_law_748 ?_
  refine aw_callV (mi := iX9_against) (av := [.int (xs (i + 1)), .int (xs (i + 2)), .int (xs (i + 3)), .int (xs (i + 4))]) (st := []) dL_law_749 ml_L_93 kX9_against (by decide) ce_0 clX9 rfl rfl rfl (Nat.le_of_ble_eq_true rfl) (AM.mono (hc M hC) (fun r M1 h => ?_))
  obtain ⟨x1, rfl, rfl, hf1, hC1⟩ := h
  have hM1 : RM M1 S := hM.cg hf1
  refine aw_aload_n dL_law_752 rfl rfl ?_
  refine law_arg (j := 1) hN (by omega) (by decide) dL_law_753 dL_law_754 dL_law_755 dL_law_756 dL_law_757 ?_
  refine law_arg (j := 2) hN (by omega) (by decide) dL_law_758 dL_law_759 dL_law_760 dL_law_761 dL_law_762 ?_
  refine law_arg (j := 3) hN (by omega) (by decide) dL_law_763 dL_law_764 dL_law_765 dL_law_766 dL_law_767 ?_
  refine law_arg (j := 4) hN (by omega) (by decide) dL_law_768 dL_law_769 dL_law_770 dL_law_771 dL_law_772 ?_
  refine aw_callV (mi := iX10_against) (av := [.int (xs (i + 1)), .int (xs (i + 2)), .int (xs (i + 3)), .int (xs (i + 4))]) (st := [.int x1]) dL_law_773 ml_L_96 kX10_against (by decide) ce_77 clX10 rfl rfl rfl (Nat.le_of_ble_eq_true rfl) (AM.mono (hm M1 hM1) (fun r M2 h => ?_))
  obtain ⟨x2, rfl, rfl, hf2, hM2⟩ := h
  exact aw_icmp_eq (tgt := 1001) dL_law_776 (by decide) (fun _ => k M2 S' hW' (hC1.frC hf2) hM2) (fun z => absurd rfl z)
theorem lc_19 (hN : N ≤ 3072) (hi : i + 6 ≤ N) (hW : WF S) (hC : RC M S) (hM : RM M S) (k : ∀ M' S', WF S' → RC M' S' → RM M' S' → ALw N xs Q 1001 [lR 3000, lR 0, lR 77, lI (nI i)] [] M') : ALw N xs Q 781 [lR 3000, lR 0, lR 77, lI (nI i)] [] M := by
  obtain ⟨x0, S', hW', hc, hm⟩ := op_whom hW (xs (i + 1)) (xs (i + 2)) (xs (i + 3))
  refine aw_aload_n dL_law_781 rfl rfl ?_
  refine law_arg (j := 1) hN (by omega) (by decide) dL_law_782 dL_law_783 dL_law_784 dL_law_785 dL_law_786 ?_
  refine law_arg (j := 2) hN (by omega) (by decide) dL_law_787 dL_law_788 dL_law_789 dL_law_790 dL_law_791 ?_
  refine law_arg (j := 3) hN (by omega) (by decide) dL_law_792 dL_law_793 dL_law_794 dL_law_795 dL_law_796 ?_
  refine aw_callV (mi := iX9_whom) (av := [.int (xs (i + 1)), .int (xs (i + 2)), .int (xs (i + 3))]) (st := []) dL_law_797 ml_L_97 kX9_whom (by decide) ce_0 clX9 rfl rfl rfl (Nat.le_of_ble_eq_true rfl) (AM.mono (hc M hC) (fun r M1 h => ?_))
  obtain ⟨x1, rfl, rfl, hf1, hC1⟩ := h
  have hM1 : RM M1 S := hM.cg hf1
  refine aw_aload_n dL_law_800 rfl rfl ?_
  refine law_arg (j := 1) hN (by omega) (by decide) dL_law_801 dL_law_802 dL_law_803 dL_law_804 dL_law_805 ?_
  refine law_arg (j := 2) hN (by omega) (by decide) dL_law_806 dL_law_807 dL_law_808 dL_law_809 dL_law_810 ?_
  refine law_arg (j := 3) hN (by omega) (by decide) dL_law_811 dL_law_812 dL_law_813 dL_law_814 dL_law_815 ?_
  refine aw_callV (mi := iX10_whom) (av := [.int (xs (i + 1)), .int (xs (i + 2)), .int (xs (i + 3))]) (st := [.int x1]) dL_law_816 ml_L_100 kX10_whom (by decide) ce_77 clX10 rfl rfl rfl (Nat.le_of_ble_eq_true rfl) (AM.mono (hm M1 hM1) (fun r M2 h => ?_))
  obtain ⟨x2, rfl, rfl, hf2, hM2⟩ := h
  exact aw_icmp_eq (tgt := 1001) dL_law_819 (by decide) (fun _ => k M2 S' hW' (hC1.frC hf2) hM2) (fun z => absurd rfl z)
theorem lc_20 (hN : N ≤ 3072) (hi : i + 6 ≤ N) (hW : WF S) (hC : RC M S) (hM : RM M S) (k : ∀ M' S', WF S' → RC M' S' → RM M' S' → ALw N xs Q 1001 [lR 3000, lR 0, lR 77, lI (nI i)] [] M') : ALw N xs Q 824 [lR 3000, lR 0, lR 77, lI (nI i)] [] M := by
  obtain ⟨x0, S', hW', hc, hm⟩ := op_sure hW (xs (i + 1))
  refine aw_aload_n dL_law_824 rfl rfl ?_
  refine law_arg (j := 1) hN (by omega) (by decide) dL_law_825 dL_law_826 dL_law_827 dL_law_828 dL_law_829 ?_
  refine aw_callV (mi := iX9_sure) (av := [.int (xs (i + 1))]) (st := []) dL_law_830 ml_L_101 kX9_sure (by decide) ce_0 clX9 rfl rfl rfl (Nat.le_of_ble_eq_true rfl) (AM.mono (hc M hC) (fun r M1 h => ?_))
  obtain ⟨x1, rfl, rfl, hf1, hC1⟩ := h
  have hM1 : RM M1 S := hM.cg hf1
  refine aw_aload_n dL_law_833 rfl rfl ?_
  refine law_arg (j := 1) hN (by omega) (by decide) dL_law_834 dL_law_835 dL_law_836 dL_law_837 dL_law_838 ?_
  refine aw_callV (mi := iX10_sure) (av := [.int (xs (i + 1))]) (st := [.int x1]) dL_law_839 ml_L_104 kX10_sure (by decide) ce_77 clX10 rfl rfl rfl (Nat.le_of_ble_eq_true rfl) (AM.mono (hm M1 hM1) (fun r M2 h => ?_))
  obtain ⟨x2, rfl, rfl, hf2, hM2⟩ := h
  exact aw_icmp_eq (tgt := 1001) dL_law_842 (by decide) (fun _ => k M2 S' hW' (hC1.frC hf2) hM2) (fun z => absurd rfl z)
theorem lc_21 (hN : N ≤ 3072) (hi : i + 6 ≤ N) (hW : WF S) (hC : RC M S) (hM : RM M S) (k : ∀ M' S', WF S' → RC M' S' → RM M' S' → ALw N xs Q 1001 [lR 3000, lR 0, lR 77, lI (nI i)] [] M') : ALw N xs Q 847 [lR 3000, lR 0, lR 77, lI (nI i)] [] M := by
  obtain ⟨x0, S', hW', hc, hm⟩ := op_found hW (xs (i + 1))
  refine aw_aload_n dL_law_847 rfl rfl ?_
  refine law_arg (j := 1) hN (by omega) (by decide) dL_law_848 dL_law_849 dL_law_850 dL_law_851 dL_law_852 ?_
  refine aw_callV (mi := iX9_found) (av := [.int (xs (i + 1))]) (st := []) dL_law_853 ml_L_105 kX9_found (by decide) ce_0 clX9 rfl rfl rfl (Nat.le_of_ble_eq_true rfl) (AM.mono (hc M hC) (fun r M1 h => ?_))
  obtain ⟨x1, rfl, rfl, hf1, hC1⟩ := h
  have hM1 : RM M1 S := hM.cg hf1
  refine aw_aload_n dL_law_856 rfl rfl ?_
  refine law_arg (j := 1) hN (by omega) (by decide) dL_law_857 dL_law_858 dL_law_859 dL_law_860 dL_law_861 ?_
  refine aw_callV (mi := iX10_found) (av := [.int (xs (i + 1))]) (st := [.int x1]) dL_law_862 ml_L_108 kX10_found (by decide) ce_77 clX10 rfl rfl rfl (Nat.le_of_ble_eq_true rfl) (AM.mono (hm M1 hM1) (fun r M2 h => ?_))
  obtain ⟨x2, rfl, rfl, hf2, hM2⟩ := h
  exact aw_icmp_eq (tgt := 1001) dL_law_865 (by decide) (fun _ => k M2 S' hW' (hC1.frC hf2) hM2) (fun z => absurd rfl z)
theorem lc_22 (hN : N ≤ 3072) (hi : i + 6 ≤ N) (hW : WF S) (hC : RC M S) (hM : RM M S) (k : ∀ M' S', WF S' → RC M' S' → RM M' S' → ALw N xs Q 1001 [lR 3000, lR 0, lR 77, lI (nI i)] [] M') : ALw N xs Q 870 [lR 3000, lR 0, lR 77, lI (nI i)] [] M := by
  obtain ⟨x0, S', hW', hc, hm⟩ := op_least hW 
  refine aw_aload_n dL_law_870 rfl rfl ?_
  refine aw_callV (mi := iX9_least) (av := []) (st := []) dL_law_871 ml_L_109 kX9_least (by decide) ce_0 clX9 rfl rfl rfl (Nat.le_of_ble_eq_true rfl) (AM.mono (hc M hC) (fun r M1 h => ?_))
  obtain ⟨x1, rfl, rfl, hf1, hC1⟩ := h
  have hM1 : RM M1 S := hM.cg hf1
  refine aw_aload_n dL_law_874 rfl rfl ?_
  refine aw_callV (mi := iX10_least) (av := []) (st := [.int x1]) dL_law_875 ml_L_112 kX10_least (by decide) ce_77 clX10 rfl rfl rfl (Nat.le_of_ble_eq_true rfl) (AM.mono (hm M1 hM1) (fun r M2 h => ?_))
  obtain ⟨x2, rfl, rfl, hf2, hM2⟩ := h
  exact aw_icmp_eq (tgt := 1001) dL_law_878 (by decide) (fun _ => k M2 S' hW' (hC1.frC hf2) hM2) (fun z => absurd rfl z)
theorem lc_23 (hN : N ≤ 3072) (hi : i + 6 ≤ N) (hW : WF S) (hC : RC M S) (hM : RM M S) (k : ∀ M' S', WF S' → RC M' S' → RM M' S' → ALw N xs Q 1001 [lR 3000, lR 0, lR 77, lI (nI i)] [] M') : ALw N xs Q 883 [lR 3000, lR 0, lR 77, lI (nI i)] [] M := by
  obtain ⟨x0, S', hW', hc, hm⟩ := op_sideBySide hW (xs (i + 1))
  refine aw_aload_n dL_law_883 rfl rfl ?_
  refine law_arg (j := 1) hN (by omega) (by decide) dL_law_884 dL_law_885 dL_law_886 dL_law_887 dL_law_888 ?_
  refine aw_callV (mi := iX9_sideBySide) (av := [.int (xs (i + 1))]) (st := []) dL_law_889 ml_L_113 kX9_sideBySide (by decide) ce_0 clX9 rfl rfl rfl (Nat.le_of_ble_eq_true rfl) (AM.mono (hc M hC) (fun r M1 h => ?_))
  obtain ⟨x1, rfl, rfl, hf1, hC1⟩ := h
  have hM1 : RM M1 S := hM.cg hf1
  refine aw_aload_n dL_law_892 rfl rfl ?_
  refine law_arg (j := 1) hN (by omega) (by decide) dL_law_893 dL_law_894 dL_law_895 dL_law_896 dL_law_897 ?_
  refine aw_callV (mi := iX10_sideBySide) (av := [.int (xs (i + 1))]) (st := [.int x1]) dL_law_898 ml_L_116 kX10_sideBySide (by decide) ce_77 clX10 rfl rfl rfl (Nat.le_of_ble_eq_true rfl) (AM.mono (hm M1 hM1) (fun r M2 h => ?_))
  obtain ⟨x2, rfl, rfl, hf2, hM2⟩ := h
  exact aw_icmp_eq (tgt := 1001) dL_law_901 (by decide) (fun _ => k M2 S' hW' (hC1.frC hf2) hM2) (fun z => absurd rfl z)
theorem lc_24 (hN : N ≤ 3072) (hi : i + 6 ≤ N) (hW : WF S) (hC : RC M S) (hM : RM M S) (k : ∀ M' S', WF S' → RC M' S' → RM M' S' → ALw N xs Q 1001 [lR 3000, lR 0, lR 77, lI (nI i)] [] M') : ALw N xs Q 906 [lR 3000, lR 0, lR 77, lI (nI i)] [] M := by
  obtain ⟨x0, S', hW', hc, hm⟩ := op_seed hW (xs (i + 1))
  refine aw_aload_n dL_law_906 rfl rfl ?_
  refine law_arg (j := 1) hN (by omega) (by decide) dL_law_907 dL_law_908 dL_law_909 dL_law_910 dL_law_911 ?_
  refine aw_callV (mi := iX9_seed) (av := [.int (xs (i + 1))]) (st := []) dL_law_912 ml_L_117 kX9_seed (by decide) ce_0 clX9 rfl rfl rfl (Nat.le_of_ble_eq_true rfl) (AM.mono (hc M hC) (fun r M1 h => ?_))
  obtain ⟨x1, rfl, rfl, hf1, hC1⟩ := h
  have hM1 : RM M1 S := hM.cg hf1
  refine aw_aload_n dL_law_915 rfl rfl ?_
  refine law_arg (j := 1) hN (by omega) (by decide) dL_law_916 dL_law_917 dL_law_918 dL_law_919 dL_law_920 ?_
  refine aw_callV (mi := iX10_seed) (av := [.int (xs (i + 1))]) (st := [.int x1]) dL_law_921 ml_L_120 kX10_seed (by decide) ce_77 clX10 rfl rfl rfl (Nat.le_of_ble_eq_true rfl) (AM.mono (hm M1 hM1) (fun r M2 h => ?_))
  obtain ⟨x2, rfl, rfl, hf2, hM2⟩ := h
  exact aw_icmp_eq (tgt := 1001) dL_law_924 (by decide) (fun _ => k M2 S' hW' (hC1.frC hf2) hM2) (fun z => absurd rfl z)
theorem lc_25 (hN : N ≤ 3072) (hi : i + 6 ≤ N) (hW : WF S) (hC : RC M S) (hM : RM M S) (k : ∀ M' S', WF S' → RC M' S' → RM M' S' → ALw N xs Q 1001 [lR 3000, lR 0, lR 77, lI (nI i)] [] M') : ALw N xs Q 929 [lR 3000, lR 0, lR 77, lI (nI i)] [] M := by
  obtain ⟨x0, S', hW', hc, hm⟩ := op_keep hW 
  refine aw_aload_n dL_law_929 rfl rfl ?_
  refine aw_callV (mi := iX9_keep) (av := []) (st := []) dL_law_930 ml_L_121 kX9_keep (by decide) ce_0 clX9 rfl rfl rfl (Nat.le_of_ble_eq_true rfl) (AM.mono (hc M hC) (fun r M1 h => ?_))
  obtain ⟨x1, rfl, rfl, hf1, hC1⟩ := h
  have hM1 : RM M1 S := hM.cg hf1
  refine aw_aload_n dL_law_933 rfl rfl ?_
  refine aw_callV (mi := iX10_keep) (av := []) (st := [.int x1]) dL_law_934 ml_L_124 kX10_keep (by decide) ce_77 clX10 rfl rfl rfl (Nat.le_of_ble_eq_true rfl) (AM.mono (hm M1 hM1) (fun r M2 h => ?_))
  obtain ⟨x2, rfl, rfl, hf2, hM2⟩ := h
  exact aw_icmp_eq (tgt := 1001) dL_law_937 (by decide) (fun _ => k M2 S' hW' (hC1.frC hf2) hM2) (fun z => absurd rfl z)
theorem lc_26 (hN : N ≤ 3072) (hi : i + 6 ≤ N) (hW : WF S) (hC : RC M S) (hM : RM M S) (k : ∀ M' S', WF S' → RC M' S' → RM M' S' → ALw N xs Q 1001 [lR 3000, lR 0, lR 77, lI (nI i)] [] M') : ALw N xs Q 942 [lR 3000, lR 0, lR 77, lI (nI i)] [] M := by
  obtain ⟨x0, S', hW', hc, hm⟩ := op_undo hW 
  refine aw_aload_n dL_law_942 rfl rfl ?_
  refine aw_callV (mi := iX9_undo) (av := []) (st := []) dL_law_943 ml_L_125 kX9_undo (by decide) ce_0 clX9 rfl rfl rfl (Nat.le_of_ble_eq_true rfl) (AM.mono (hc M hC) (fun r M1 h => ?_))
  obtain ⟨x1, rfl, rfl, hf1, hC1⟩ := h
  have hM1 : RM M1 S := hM.cg hf1
  refine aw_aload_n dL_law_946 rfl rfl ?_
  refine aw_callV (mi := iX10_undo) (av := []) (st := [.int x1]) dL_law_947 ml_L_129 kX10_undo (by decide) ce_77 clX10 rfl rfl rfl (Nat.le_of_ble_eq_true rfl) (AM.mono (hm M1 hM1) (fun r M2 h => ?_))
  obtain ⟨x2, rfl, rfl, hf2, hM2⟩ := h
  exact aw_icmp_eq (tgt := 1001) dL_law_950 (by decide) (fun _ => k M2 S' hW' (hC1.frC hf2) hM2) (fun z => absurd rfl z)
theorem lc_27 (hN : N ≤ 3072) (hi : i + 6 ≤ N) (hW : WF S) (hC : RC M S) (hM : RM M S) (k : ∀ M' S', WF S' → RC M' S' → RM M' S' → ALw N xs Q 1001 [lR 3000, lR 0, lR 77, lI (nI i)] [] M') : ALw N xs Q 955 [lR 3000, lR 0, lR 77, lI (nI i)] [] M := by
  obtain ⟨x0, S', hW', hc, hm⟩ := op_check hW (xs (i + 1))
  refine aw_aload_n dL_law_955 rfl rfl ?_
  refine law_arg (j := 1) hN (by omega) (by decide) dL_law_956 dL_law_957 dL_law_958 dL_law_959 dL_law_960 ?_
  refine aw_callV (mi := iX9_check) (av := [.int (xs (i + 1))]) (st := []) dL_law_961 ml_L_130 kX9_check (by decide) ce_0 clX9 rfl rfl rfl (Nat.le_of_ble_eq_true rfl) (AM.mono (hc M hC) (fun r M1 h => ?_))
  obtain ⟨x1, rfl, rfl, hf1, hC1⟩ := h
  have hM1 : RM M1 S := hM.cg hf1
  refine aw_aload_n dL_law_964 rfl rfl ?_
  refine law_arg (j := 1) hN (by omega) (by decide) dL_law_965 dL_law_966 dL_law_967 dL_law_968 dL_law_969 ?_
  refine aw_callV (mi := iX10_check) (av := [.int (xs (i + 1))]) (st := [.int x1]) dL_law_970 ml_L_133 kX10_check (by decide) ce_77 clX10 rfl rfl rfl (Nat.le_of_ble_eq_true rfl) (AM.mono (hm M1 hM1) (fun r M2 h => ?_))
  obtain ⟨x2, rfl, rfl, hf2, hM2⟩ := h
  exact aw_icmp_eq (tgt := 1001) dL_law_973 (by decide) (fun _ => k M2 S' hW' (hC1.frC hf2) hM2) (fun z => absurd rfl z)
theorem lc_28 (hN : N ≤ 3072) (hi : i + 6 ≤ N) (hW : WF S) (hC : RC M S) (hM : RM M S) (k : ∀ M' S', WF S' → RC M' S' → RM M' S' → ALw N xs Q 1001 [lR 3000, lR 0, lR 77, lI (nI i)] [] M') : ALw N xs Q 978 [lR 3000, lR 0, lR 77, lI (nI i)] [] M := by
  obtain ⟨x0, S', hW', hc, hm⟩ := op_count hW (xs (i + 1))
  refine aw_aload_n dL_law_978 rfl rfl ?_
  refine law_arg (j := 1) hN (by omega) (by decide) dL_law_979 dL_law_980 dL_law_981 dL_law_982 dL_law_983 ?_
  refine aw_callV (mi := iX9_count) (av := [.int (xs (i + 1))]) (st := []) dL_law_984 ml_L_134 kX9_count (by decide) ce_0 clX9 rfl rfl rfl (Nat.le_of_ble_eq_true rfl) (AM.mono (hc M hC) (fun r M1 h => ?_))
  obtain ⟨x1, rfl, rfl, hf1, hC1⟩ := h
  have hM1 : RM M1 S := hM.cg hf1
  refine aw_aload_n dL_law_987 rfl rfl ?_
  refine law_arg (j := 1) hN (by omega) (by decide) dL_law_988 dL_law_989 dL_law_990 dL_law_991 dL_law_992 ?_
  refine aw_callV (mi := iX10_count) (av := [.int (xs (i + 1))]) (st := [.int x1]) dL_law_993 ml_L_137 kX10_count (by decide) ce_77 clX10 rfl rfl rfl (Nat.le_of_ble_eq_true rfl) (AM.mono (hm M1 hM1) (fun r M2 h => ?_))
  obtain ⟨x2, rfl, rfl, hf2, hM2⟩ := h
  exact aw_icmp_eq (tgt := 1001) dL_law_996 (by decide) (fun _ => k M2 S' hW' (hC1.frC hf2) hM2) (fun z => absurd rfl z)
end LWP
theorem law_loop {N : Nat} {xs : Nat → Int32} (hN : N ≤ 3072) : ∀ n i S M, N < i + n → i ≤ 3072 → WF S → RC M S → RM M S → ALw N xs (fun r _ => r = some 1) 18 [lR 3000, lR 0, lR 77, lI (nI i)] [] M := by
  intro n
  induction n with
  | zero =>
    intro i S M hn hi hW hC hM
    refine aw_iload_n dL_law_18 rfl rfl ?_
    refine aw_aload_n dL_law_19 rfl rfl ?_
    refine aw_slen rfl dL_law_20 ?_
    refine aw_bipush (v := 6) dL_law_21 (by decide) ?_
    refine aw_isub dL_law_23 ?_
    refine aw_icmp_gt (tgt := 1007) dL_law_24 (by decide) (fun _ => ?_) (fun z => ?_)
    · refine aw_iconst (v := 1) dL_law_1007 (by decide) ?_
      exact aw_iret dL_law_1008 rfl rfl rfl
    · exfalso
      apply z
      rw [Int32.lt_iff_toInt_lt, show (6 : Int32) = nI 6 from rfl, pk_sub_toInt (by omega) (by omega), nI_toInt (by omega)]
      omega
  | succ n ih =>
    intro i S M hn hi hW hC hM
    refine aw_iload_n dL_law_18 rfl rfl ?_
    refine aw_aload_n dL_law_19 rfl rfl ?_
    refine aw_slen rfl dL_law_20 ?_
    refine aw_bipush (v := 6) dL_law_21 (by decide) ?_
    refine aw_isub dL_law_23 ?_
    have hcmp : nI N - 6 < nI i ↔ N < i + 6 := by
      rw [Int32.lt_iff_toInt_lt, show (6 : Int32) = nI 6 from rfl, pk_sub_toInt (by omega) (by omega), nI_toInt (by omega)]
      omega
    refine aw_icmp_gt (tgt := 1007) dL_law_24 (by decide) (fun _ => ?_) (fun z => ?_)
    · refine aw_iconst (v := 1) dL_law_1007 (by decide) ?_
      exact aw_iret dL_law_1008 rfl rfl rfl
    · rw [hcmp] at z
      have hi6 : i + 6 ≤ N := by omega
      have k1001 : ∀ M' S', WF S' → RC M' S' → RM M' S' → ALw N xs (fun r _ => r = some 1) 1001 [lR 3000, lR 0, lR 77, lI (nI i)] [] M' := by
        intro M' S' hW' hC' hM'
        refine aw_iinc (x := nI i) (y := 6) dL_law_1001 rfl (by decide) (by decide) (L2 := [lR 3000, lR 0, lR 77, lI (nI (i + 6))]) (by show [lR 3000, lR 0, lR 77, lI (nI i + 6)] = _; rw [show (6 : Int32) = nI 6 from rfl, nI_add]) ?_
        refine aw_goto (tgt := 18) dL_law_1004 (by decide) ?_
        exact ih (i + 6) S' M' (by omega) (by omega) hW' hC' hM'
      refine aw_aload_n dL_law_27 rfl rfl ?_
      refine aw_iload_n dL_law_28 rfl rfl ?_
      refine aw_sld rfl dL_law_29 (vp_in_nI (by omega) (by omega)) ?_
      refine aw_bipush (v := 31) dL_law_30 (by decide) ?_
      refine aw_iand dL_law_32 ?_
      obtain ⟨c, hc, e⟩ := pk_andE (xs (ix (nI i))) (m := 31) 5 (by decide)
      rw [e]
      have hc : c < 32 := hc
      clear e
      match c, hc with
      | 0, _ => exact aw_tableIn (off := 131) (tgt := 164) dL_law_33 (by decide) (by decide) (by decide) (by decide) (lc_0 hN hi6 hW hC hM k1001)
      | 1, _ => exact aw_tableIn (off := 184) (tgt := 217) dL_law_33 (by decide) (by decide) (by decide) (by decide) (lc_1 hN hi6 hW hC hM k1001)
      | 2, _ => exact aw_tableIn (off := 217) (tgt := 250) dL_law_33 (by decide) (by decide) (by decide) (by decide) (lc_2 hN hi6 hW hC hM k1001)
      | 3, _ => exact aw_tableIn (off := 240) (tgt := 273) dL_law_33 (by decide) (by decide) (by decide) (by decide) (lc_3 hN hi6 hW hC hM k1001)
      | 4, _ => exact aw_tableIn (off := 303) (tgt := 336) dL_law_33 (by decide) (by decide) (by decide) (by decide) (lc_4 hN hi6 hW hC hM k1001)
      | 5, _ => exact aw_tableIn (off := 336) (tgt := 369) dL_law_33 (by decide) (by decide) (by decide) (by decide) (lc_5 hN hi6 hW hC hM k1001)
      | 6, _ => exact aw_tableIn (off := 359) (tgt := 392) dL_law_33 (by decide) (by decide) (by decide) (by decide) (lc_6 hN hi6 hW hC hM k1001)
      | 7, _ => exact aw_tableIn (off := 372) (tgt := 405) dL_law_33 (by decide) (by decide) (by decide) (by decide) (lc_7 hN hi6 hW hC hM k1001)
      | 8, _ => exact aw_tableIn (off := 405) (tgt := 438) dL_law_33 (by decide) (by decide) (by decide) (by decide) (lc_8 hN hi6 hW hC hM k1001)
      | 9, _ => exact aw_tableIn (off := 438) (tgt := 471) dL_law_33 (by decide) (by decide) (by decide) (by decide) (lc_9 hN hi6 hW hC hM k1001)
      | 10, _ => exact aw_tableIn (off := 471) (tgt := 504) dL_law_33 (by decide) (by decide) (by decide) (by decide) (lc_10 hN hi6 hW hC hM k1001)
      | 11, _ => exact aw_tableIn (off := 494) (tgt := 527) dL_law_33 (by decide) (by decide) (by decide) (by decide) (lc_11 hN hi6 hW hC hM k1001)
      | 12, _ => exact aw_tableIn (off := 517) (tgt := 550) dL_law_33 (by decide) (by decide) (by decide) (by decide) (lc_12 hN hi6 hW hC hM k1001)
      | 13, _ => exact aw_tableIn (off := 540) (tgt := 573) dL_law_33 (by decide) (by decide) (by decide) (by decide) (lc_13 hN hi6 hW hC hM k1001)
      | 14, _ => exact aw_tableIn (off := 573) (tgt := 606) dL_law_33 (by decide) (by decide) (by decide) (by decide) (lc_14 hN hi6 hW hC hM k1001)
      | 15, _ => exact aw_tableIn (off := 606) (tgt := 639) dL_law_33 (by decide) (by decide) (by decide) (by decide) (lc_15 hN hi6 hW hC hM k1001)
      | 16, _ => exact aw_tableIn (off := 649) (tgt := 682) dL_law_33 (by decide) (by decide) (by decide) (by decide) (lc_16 hN hi6 hW hC hM k1001)
      | 17, _ => exact aw_tableIn (off := 672) (tgt := 705) dL_law_33 (by decide) (by decide) (by decide) (by decide) (lc_17 hN hi6 hW hC hM k1001)
      | 18, _ => exact aw_tableIn (off := 695) (tgt := 728) dL_law_33 (by decide) (by decide) (by decide) (by decide) (lc_18 hN hi6 hW hC hM k1001)
      | 19, _ => exact aw_tableIn (off := 748) (tgt := 781) dL_law_33 (by decide) (by decide) (by decide) (by decide) (lc_19 hN hi6 hW hC hM k1001)
      | 20, _ => exact aw_tableIn (off := 791) (tgt := 824) dL_law_33 (by decide) (by decide) (by decide) (by decide) (lc_20 hN hi6 hW hC hM k1001)
      | 21, _ => exact aw_tableIn (off := 814) (tgt := 847) dL_law_33 (by decide) (by decide) (by decide) (by decide) (lc_21 hN hi6 hW hC hM k1001)
      | 22, _ => exact aw_tableIn (off := 837) (tgt := 870) dL_law_33 (by decide) (by decide) (by decide) (by decide) (lc_22 hN hi6 hW hC hM k1001)
      | 23, _ => exact aw_tableIn (off := 850) (tgt := 883) dL_law_33 (by decide) (by decide) (by decide) (by decide) (lc_23 hN hi6 hW hC hM k1001)
      | 24, _ => exact aw_tableIn (off := 873) (tgt := 906) dL_law_33 (by decide) (by decide) (by decide) (by decide) (lc_24 hN hi6 hW hC hM k1001)
      | 25, _ => exact aw_tableIn (off := 896) (tgt := 929) dL_law_33 (by decide) (by decide) (by decide) (by decide) (lc_25 hN hi6 hW hC hM k1001)
      | 26, _ => exact aw_tableIn (off := 909) (tgt := 942) dL_law_33 (by decide) (by decide) (by decide) (by decide) (lc_26 hN hi6 hW hC hM k1001)
      | 27, _ => exact aw_tableIn (off := 922) (tgt := 955) dL_law_33 (by decide) (by decide) (by decide) (by decide) (lc_27 hN hi6 hW hC hM k1001)
      | 28, _ => exact aw_tableIn (off := 945) (tgt := 978) dL_law_33 (by decide) (by decide) (by decide) (by decide) (lc_28 hN hi6 hW hC hM k1001)
      | 29, _ => exact aw_tableOut (tgt := 1001) dL_law_33 (by decide) (by decide) (k1001 M S hW hC hM)
      | 30, _ => exact aw_tableOut (tgt := 1001) dL_law_33 (by decide) (by decide) (k1001 M S hW hC hM)
      | 31, _ => exact aw_tableOut (tgt := 1001) dL_law_33 (by decide) (by decide) (k1001 M S hW hC hM)
      | c + 32, h => exact absurd h (by omega)
