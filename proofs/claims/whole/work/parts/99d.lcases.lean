/-! THE LAW: the cases of its switch -/
section CASES
variable {G : GG} {n : Nat} {E : EE} {Q : State → Prop} {M S : Mem} {b L t : Nat} {xs : Nat → Int32}
theorem lc_type (C : Cx G n E R_law cL_law 4) (X : SX G E b L xs) (HR : RM E 16 648) (hL : L ≤ 3584) (ht : 7 * t + 7 ≤ L) (h512 : t < 512) (hS : SOK S) (hI : InvC t S M) (hJ : InvR S M) (k : ∀ M1 S1 : Mem, SOK S1 → InvC (t + 1) S1 M1 → InvR S1 M1 → WW G n E 4 Q 1422 (LV G b t) [] M1) : WW G n E 4 Q 188 (LV G b t) [] M := by
  refine w_aload_n C 1 dL_law_188 rfl rfl ?_
  refine w_arg C X hL ht (a := 1) (by decide) (by decide) dL_law_189 dL_law_190 dL_law_191 dL_law_192 dL_law_193 ?_
  refine w_arg C X hL ht (a := 2) (by decide) (by decide) dL_law_194 dL_law_195 dL_law_196 dL_law_197 dL_law_198 ?_
  refine back_I (run_V C HR ml_X9_type (ci := 9) rfl (by decide) (Nat.le_of_ble_eq_true rfl) gl369 gl370 gl368 (by decide) rfl (Nat.le_of_ble_eq_true rfl) dL_law_199 (As := [.int (xs (7 * t + 1)), .int (xs (7 * t + 2))]) rfl (c_X9_type _ _ _ _ (C_type hS hI h512 (xs (7 * t + 1)) (xs (7 * t + 2)) (Q := fun r M1 => r = a_type S (xs (7 * t + 1)) (xs (7 * t + 2)) ∧ InvC (t + 1) (n_type S (xs (7 * t + 1)) (xs (7 * t + 2))) M1 ∧ FrC M M1) (fun M1 h1 f1 => ⟨rfl, h1, f1⟩)))) (fun r0 M1 hw => ?_)
  obtain ⟨rfl, h1, f1⟩ := hw
  refine w_aload_n C 2 dL_law_202 rfl rfl ?_
  refine w_arg C X hL ht (a := 1) (by decide) (by decide) dL_law_203 dL_law_204 dL_law_205 dL_law_206 dL_law_207 ?_
  refine w_arg C X hL ht (a := 2) (by decide) (by decide) dL_law_208 dL_law_209 dL_law_210 dL_law_211 dL_law_212 ?_
  refine back_I (run_V C HR ml_X10_type (ci := 10) rfl (by decide) (Nat.le_of_ble_eq_true rfl) gl1172 gl1173 gl1171 (by decide) rfl (Nat.le_of_ble_eq_true rfl) dL_law_213 (As := [.int (xs (7 * t + 1)), .int (xs (7 * t + 2))]) rfl (c_X10_type _ _ _ _ (R_type hS (hJ.frC f1) (xs (7 * t + 1)) (xs (7 * t + 2)) (Q := fun r M2 => r = a_type S (xs (7 * t + 1)) (xs (7 * t + 2)) ∧ InvR (n_type S (xs (7 * t + 1)) (xs (7 * t + 2))) M2 ∧ FrR M1 M2) (fun M2 h2 f2 => ⟨rfl, h2, f2⟩)))) (fun r1 M2 hw => ?_)
  obtain ⟨rfl, h2, f2⟩ := hw
  refine w_icmp_eq C dL_law_216 (tgt := 1422) rfl (fun _ => ?_) (fun h => absurd rfl h)
  exact k _ _ (S_type hS (xs (7 * t + 1)) (xs (7 * t + 2))) (h1.frR f2) h2
theorem lc_wipe (C : Cx G n E R_law cL_law 4) (X : SX G E b L xs) (HR : RM E 16 648) (hL : L ≤ 3584) (ht : 7 * t + 7 ≤ L) (h512 : t < 512) (hS : SOK S) (hI : InvC t S M) (hJ : InvR S M) (k : ∀ M1 S1 : Mem, SOK S1 → InvC (t + 1) S1 M1 → InvR S1 M1 → WW G n E 4 Q 1422 (LV G b t) [] M1) : WW G n E 4 Q 221 (LV G b t) [] M := by
  refine w_aload_n C 1 dL_law_221 rfl rfl ?_
  refine w_arg C X hL ht (a := 1) (by decide) (by decide) dL_law_222 dL_law_223 dL_law_224 dL_law_225 dL_law_226 ?_
  refine back_I (run_V C HR ml_X9_wipe (ci := 9) rfl (by decide) (Nat.le_of_ble_eq_true rfl) gl381 gl382 gl380 (by decide) rfl (Nat.le_of_ble_eq_true rfl) dL_law_227 (As := [.int (xs (7 * t + 1))]) rfl (c_X9_wipe _ _ _ (C_wipe hS hI h512 (xs (7 * t + 1)) (Q := fun r M1 => r = a_wipe S (xs (7 * t + 1)) ∧ InvC (t + 1) (n_wipe S (xs (7 * t + 1))) M1 ∧ FrC M M1) (fun M1 h1 f1 => ⟨rfl, h1, f1⟩)))) (fun r0 M1 hw => ?_)
  obtain ⟨rfl, h1, f1⟩ := hw
  refine w_aload_n C 2 dL_law_230 rfl rfl ?_
  refine w_arg C X hL ht (a := 1) (by decide) (by decide) dL_law_231 dL_law_232 dL_law_233 dL_law_234 dL_law_235 ?_
  refine back_I (run_V C HR ml_X10_wipe (ci := 10) rfl (by decide) (Nat.le_of_ble_eq_true rfl) gl1182 gl1183 gl1181 (by decide) rfl (Nat.le_of_ble_eq_true rfl) dL_law_236 (As := [.int (xs (7 * t + 1))]) rfl (c_X10_wipe _ _ _ (R_wipe hS (hJ.frC f1) (xs (7 * t + 1)) (Q := fun r M2 => r = a_wipe S (xs (7 * t + 1)) ∧ InvR (n_wipe S (xs (7 * t + 1))) M2 ∧ FrR M1 M2) (fun M2 h2 f2 => ⟨rfl, h2, f2⟩)))) (fun r1 M2 hw => ?_)
  obtain ⟨rfl, h2, f2⟩ := hw
  refine w_icmp_eq C dL_law_239 (tgt := 1422) rfl (fun _ => ?_) (fun h => absurd rfl h)
  exact k _ _ (S_wipe hS (xs (7 * t + 1))) (h1.frR f2) h2
theorem lc_fault (C : Cx G n E R_law cL_law 4) (X : SX G E b L xs) (HR : RM E 16 648) (hL : L ≤ 3584) (ht : 7 * t + 7 ≤ L) (h512 : t < 512) (hS : SOK S) (hI : InvC t S M) (hJ : InvR S M) (k : ∀ M1 S1 : Mem, SOK S1 → InvC (t + 1) S1 M1 → InvR S1 M1 → WW G n E 4 Q 1422 (LV G b t) [] M1) : WW G n E 4 Q 244 (LV G b t) [] M := by
  refine w_aload_n C 1 dL_law_244 rfl rfl ?_
  refine w_arg C X hL ht (a := 1) (by decide) (by decide) dL_law_245 dL_law_246 dL_law_247 dL_law_248 dL_law_249 ?_
  refine back_I (run_V C HR ml_X9_fault (ci := 9) rfl (by decide) (Nat.le_of_ble_eq_true rfl) gl389 gl390 gl388 (by decide) rfl (Nat.le_of_ble_eq_true rfl) dL_law_250 (As := [.int (xs (7 * t + 1))]) rfl (c_X9_fault _ _ _ (C_fault hS hI (xs (7 * t + 1)) (Q := fun r M1 => r = a_fault S (xs (7 * t + 1)) ∧ InvC (t + 1) S M1 ∧ FrC M M1) (fun M1 h1 f1 => ⟨rfl, h1, f1⟩)))) (fun r0 M1 hw => ?_)
  obtain ⟨rfl, h1, f1⟩ := hw
  refine w_aload_n C 2 dL_law_253 rfl rfl ?_
  refine w_arg C X hL ht (a := 1) (by decide) (by decide) dL_law_254 dL_law_255 dL_law_256 dL_law_257 dL_law_258 ?_
  refine back_I (run_V C HR ml_X10_fault (ci := 10) rfl (by decide) (Nat.le_of_ble_eq_true rfl) gl1186 gl1187 gl1185 (by decide) rfl (Nat.le_of_ble_eq_true rfl) dL_law_259 (As := [.int (xs (7 * t + 1))]) rfl (c_X10_fault _ _ _ (R_fault hS (hJ.frC f1) (xs (7 * t + 1)) (Q := fun r M2 => r = a_fault S (xs (7 * t + 1)) ∧ InvR S M2 ∧ FrR M1 M2) (fun M2 h2 f2 => ⟨rfl, h2, f2⟩)))) (fun r1 M2 hw => ?_)
  obtain ⟨rfl, h2, f2⟩ := hw
  refine w_icmp_eq C dL_law_262 (tgt := 1422) rfl (fun _ => ?_) (fun h => absurd rfl h)
  exact k _ _ hS (h1.frR f2) h2
theorem lc_acts (C : Cx G n E R_law cL_law 4) (X : SX G E b L xs) (HR : RM E 16 648) (hL : L ≤ 3584) (ht : 7 * t + 7 ≤ L) (h512 : t < 512) (hS : SOK S) (hI : InvC t S M) (hJ : InvR S M) (k : ∀ M1 S1 : Mem, SOK S1 → InvC (t + 1) S1 M1 → InvR S1 M1 → WW G n E 4 Q 1422 (LV G b t) [] M1) : WW G n E 4 Q 267 (LV G b t) [] M := by
  refine w_aload_n C 1 dL_law_267 rfl rfl ?_
  refine w_arg C X hL ht (a := 1) (by decide) (by decide) dL_law_268 dL_law_269 dL_law_270 dL_law_271 dL_law_272 ?_
  refine w_arg C X hL ht (a := 2) (by decide) (by decide) dL_law_273 dL_law_274 dL_law_275 dL_law_276 dL_law_277 ?_
  refine back_I (run_V C HR ml_X9_acts (ci := 9) rfl (by decide) (Nat.le_of_ble_eq_true rfl) gl503 gl504 gl502 (by decide) rfl (Nat.le_of_ble_eq_true rfl) dL_law_278 (As := [.int (xs (7 * t + 1)), .int (xs (7 * t + 2))]) rfl (c_X9_acts _ _ _ _ (C_acts hS hI (xs (7 * t + 1)) (xs (7 * t + 2)) (Q := fun r M1 => r = a_acts S (xs (7 * t + 1)) (xs (7 * t + 2)) ∧ InvC (t + 1) S M1 ∧ FrC M M1) (fun M1 h1 f1 => ⟨rfl, h1, f1⟩)))) (fun r0 M1 hw => ?_)
  obtain ⟨rfl, h1, f1⟩ := hw
  refine w_aload_n C 2 dL_law_281 rfl rfl ?_
  refine w_arg C X hL ht (a := 1) (by decide) (by decide) dL_law_282 dL_law_283 dL_law_284 dL_law_285 dL_law_286 ?_
  refine w_arg C X hL ht (a := 2) (by decide) (by decide) dL_law_287 dL_law_288 dL_law_289 dL_law_290 dL_law_291 ?_
  refine back_I (run_V C HR ml_X10_acts (ci := 10) rfl (by decide) (Nat.le_of_ble_eq_true rfl) gl1224 gl1225 gl1223 (by decide) rfl (Nat.le_of_ble_eq_true rfl) dL_law_292 (As := [.int (xs (7 * t + 1)), .int (xs (7 * t + 2))]) rfl (c_X10_acts _ _ _ _ (R_acts hS (hJ.frC f1) (xs (7 * t + 1)) (xs (7 * t + 2)) (Q := fun r M2 => r = a_acts S (xs (7 * t + 1)) (xs (7 * t + 2)) ∧ InvR S M2 ∧ FrR M1 M2) (fun M2 h2 f2 => ⟨rfl, h2, f2⟩)))) (fun r1 M2 hw => ?_)
  obtain ⟨rfl, h2, f2⟩ := hw
  refine w_icmp_eq C dL_law_295 (tgt := 1422) rfl (fun _ => ?_) (fun h => absurd rfl h)
  exact k _ _ hS (h1.frR f2) h2
theorem lc_differ (C : Cx G n E R_law cL_law 4) (X : SX G E b L xs) (HR : RM E 16 648) (hL : L ≤ 3584) (ht : 7 * t + 7 ≤ L) (h512 : t < 512) (hS : SOK S) (hI : InvC t S M) (hJ : InvR S M) (k : ∀ M1 S1 : Mem, SOK S1 → InvC (t + 1) S1 M1 → InvR S1 M1 → WW G n E 4 Q 1422 (LV G b t) [] M1) : WW G n E 4 Q 300 (LV G b t) [] M := by
  refine w_aload_n C 1 dL_law_300 rfl rfl ?_
  refine w_arg C X hL ht (a := 1) (by decide) (by decide) dL_law_301 dL_law_302 dL_law_303 dL_law_304 dL_law_305 ?_
  refine w_arg C X hL ht (a := 2) (by decide) (by decide) dL_law_306 dL_law_307 dL_law_308 dL_law_309 dL_law_310 ?_
  refine back_I (run_V C HR ml_X9_differ (ci := 9) rfl (by decide) (Nat.le_of_ble_eq_true rfl) gl507 gl508 gl506 (by decide) rfl (Nat.le_of_ble_eq_true rfl) dL_law_311 (As := [.int (xs (7 * t + 1)), .int (xs (7 * t + 2))]) rfl (c_X9_differ _ _ _ _ (C_differ hS hI (xs (7 * t + 1)) (xs (7 * t + 2)) (Q := fun r M1 => r = a_differ S (xs (7 * t + 1)) (xs (7 * t + 2)) ∧ InvC (t + 1) S M1 ∧ FrC M M1) (fun M1 h1 f1 => ⟨rfl, h1, f1⟩)))) (fun r0 M1 hw => ?_)
  obtain ⟨rfl, h1, f1⟩ := hw
  refine w_aload_n C 2 dL_law_314 rfl rfl ?_
  refine w_arg C X hL ht (a := 1) (by decide) (by decide) dL_law_315 dL_law_316 dL_law_317 dL_law_318 dL_law_319 ?_
  refine w_arg C X hL ht (a := 2) (by decide) (by decide) dL_law_320 dL_law_321 dL_law_322 dL_law_323 dL_law_324 ?_
  refine back_I (run_V C HR ml_X10_differ (ci := 10) rfl (by decide) (Nat.le_of_ble_eq_true rfl) gl1232 gl1233 gl1231 (by decide) rfl (Nat.le_of_ble_eq_true rfl) dL_law_325 (As := [.int (xs (7 * t + 1)), .int (xs (7 * t + 2))]) rfl (c_X10_differ _ _ _ _ (R_differ hS (hJ.frC f1) (xs (7 * t + 1)) (xs (7 * t + 2)) (Q := fun r M2 => r = a_differ S (xs (7 * t + 1)) (xs (7 * t + 2)) ∧ InvR S M2 ∧ FrR M1 M2) (fun M2 h2 f2 => ⟨rfl, h2, f2⟩)))) (fun r1 M2 hw => ?_)
  obtain ⟨rfl, h2, f2⟩ := hw
  refine w_icmp_eq C dL_law_328 (tgt := 1422) rfl (fun _ => ?_) (fun h => absurd rfl h)
  exact k _ _ hS (h1.frR f2) h2
theorem lc_run (C : Cx G n E R_law cL_law 4) (X : SX G E b L xs) (HR : RM E 16 648) (hL : L ≤ 3584) (ht : 7 * t + 7 ≤ L) (h512 : t < 512) (hS : SOK S) (hI : InvC t S M) (hJ : InvR S M) (k : ∀ M1 S1 : Mem, SOK S1 → InvC (t + 1) S1 M1 → InvR S1 M1 → WW G n E 4 Q 1422 (LV G b t) [] M1) : WW G n E 4 Q 333 (LV G b t) [] M := by
  refine w_aload_n C 1 dL_law_333 rfl rfl ?_
  refine w_arg C X hL ht (a := 1) (by decide) (by decide) dL_law_334 dL_law_335 dL_law_336 dL_law_337 dL_law_338 ?_
  refine w_arg C X hL ht (a := 2) (by decide) (by decide) dL_law_339 dL_law_340 dL_law_341 dL_law_342 dL_law_343 ?_
  refine w_arg C X hL ht (a := 3) (by decide) (by decide) dL_law_344 dL_law_345 dL_law_346 dL_law_347 dL_law_348 ?_
  refine w_arg C X hL ht (a := 4) (by decide) (by decide) dL_law_349 dL_law_350 dL_law_351 dL_law_352 dL_law_353 ?_
  refine w_arg C X hL ht (a := 5) (by decide) (by decide) dL_law_354 dL_law_355 dL_law_356 dL_law_357 dL_law_358 ?_
  refine w_arg6 C X hL ht (a := 6) (by decide) (by decide) dL_law_359 dL_law_360 dL_law_361 dL_law_363 dL_law_364 ?_
  refine back_I (run_V C HR ml_X9_run (ci := 9) rfl (by decide) (Nat.le_of_ble_eq_true rfl) gl518 gl519 gl517 (by decide) rfl (Nat.le_of_ble_eq_true rfl) dL_law_365 (As := [.int (xs (7 * t + 1)), .int (xs (7 * t + 2)), .int (xs (7 * t + 3)), .int (xs (7 * t + 4)), .int (xs (7 * t + 5)), .int (xs (7 * t + 6))]) rfl (c_X9_run _ _ _ _ _ _ _ _ (C_run hS hI (xs (7 * t + 1)) (xs (7 * t + 2)) (xs (7 * t + 3)) (xs (7 * t + 4)) (xs (7 * t + 5)) (xs (7 * t + 6)) (Q := fun r M1 => r = a_run S (xs (7 * t + 1)) (xs (7 * t + 2)) (xs (7 * t + 3)) (xs (7 * t + 4)) (xs (7 * t + 5)) (xs (7 * t + 6)) ∧ InvC (t + 1) (n_run S (xs (7 * t + 1)) (xs (7 * t + 2)) (xs (7 * t + 3)) (xs (7 * t + 4)) (xs (7 * t + 5)) (xs (7 * t + 6))) M1 ∧ FrC M M1) (fun M1 h1 f1 => ⟨rfl, h1, f1⟩)))) (fun r0 M1 hw => ?_)
  obtain ⟨rfl, h1, f1⟩ := hw
  refine w_aload_n C 2 dL_law_368 rfl rfl ?_
  refine w_arg C X hL ht (a := 1) (by decide) (by decide) dL_law_369 dL_law_370 dL_law_371 dL_law_372 dL_law_373 ?_
  refine w_arg C X hL ht (a := 2) (by decide) (by decide) dL_law_374 dL_law_375 dL_law_376 dL_law_377 dL_law_378 ?_
  refine w_arg C X hL ht (a := 3) (by decide) (by decide) dL_law_379 dL_law_380 dL_law_381 dL_law_382 dL_law_383 ?_
  refine w_arg C X hL ht (a := 4) (by decide) (by decide) dL_law_384 dL_law_385 dL_law_386 dL_law_387 dL_law_388 ?_
  refine w_arg C X hL ht (a := 5) (by decide) (by decide) dL_law_389 dL_law_390 dL_law_391 dL_law_392 dL_law_393 ?_
  refine w_arg6 C X hL ht (a := 6) (by decide) (by decide) dL_law_394 dL_law_395 dL_law_396 dL_law_398 dL_law_399 ?_
  refine back_I (run_V C HR ml_X10_run (ci := 10) rfl (by decide) (Nat.le_of_ble_eq_true rfl) gl1244 gl1245 gl1243 (by decide) rfl (Nat.le_of_ble_eq_true rfl) dL_law_400 (As := [.int (xs (7 * t + 1)), .int (xs (7 * t + 2)), .int (xs (7 * t + 3)), .int (xs (7 * t + 4)), .int (xs (7 * t + 5)), .int (xs (7 * t + 6))]) rfl (c_X10_run _ _ _ _ _ _ _ _ (R_run hS (hJ.frC f1) (xs (7 * t + 1)) (xs (7 * t + 2)) (xs (7 * t + 3)) (xs (7 * t + 4)) (xs (7 * t + 5)) (xs (7 * t + 6)) (Q := fun r M2 => r = a_run S (xs (7 * t + 1)) (xs (7 * t + 2)) (xs (7 * t + 3)) (xs (7 * t + 4)) (xs (7 * t + 5)) (xs (7 * t + 6)) ∧ InvR (n_run S (xs (7 * t + 1)) (xs (7 * t + 2)) (xs (7 * t + 3)) (xs (7 * t + 4)) (xs (7 * t + 5)) (xs (7 * t + 6))) M2 ∧ FrR M1 M2) (fun M2 h2 f2 => ⟨rfl, h2, f2⟩)))) (fun r1 M2 hw => ?_)
  obtain ⟨rfl, h2, f2⟩ := hw
  refine w_icmp_eq C dL_law_403 (tgt := 1422) rfl (fun _ => ?_) (fun h => absurd rfl h)
  exact k _ _ (S_run hS (xs (7 * t + 1)) (xs (7 * t + 2)) (xs (7 * t + 3)) (xs (7 * t + 4)) (xs (7 * t + 5)) (xs (7 * t + 6))) (h1.frR f2) h2
theorem lc_parting (C : Cx G n E R_law cL_law 4) (X : SX G E b L xs) (HR : RM E 16 648) (hL : L ≤ 3584) (ht : 7 * t + 7 ≤ L) (h512 : t < 512) (hS : SOK S) (hI : InvC t S M) (hJ : InvR S M) (k : ∀ M1 S1 : Mem, SOK S1 → InvC (t + 1) S1 M1 → InvR S1 M1 → WW G n E 4 Q 1422 (LV G b t) [] M1) : WW G n E 4 Q 408 (LV G b t) [] M := by
  refine w_aload_n C 1 dL_law_408 rfl rfl ?_
  refine w_arg C X hL ht (a := 1) (by decide) (by decide) dL_law_409 dL_law_410 dL_law_411 dL_law_412 dL_law_413 ?_
  refine w_arg C X hL ht (a := 2) (by decide) (by decide) dL_law_414 dL_law_415 dL_law_416 dL_law_417 dL_law_418 ?_
  refine w_arg C X hL ht (a := 3) (by decide) (by decide) dL_law_419 dL_law_420 dL_law_421 dL_law_422 dL_law_423 ?_
  refine back_I (run_V C HR ml_X9_parting (ci := 9) rfl (by decide) (Nat.le_of_ble_eq_true rfl) gl572 gl573 gl571 (by decide) rfl (Nat.le_of_ble_eq_true rfl) dL_law_424 (As := [.int (xs (7 * t + 1)), .int (xs (7 * t + 2)), .int (xs (7 * t + 3))]) rfl (c_X9_parting _ _ _ _ _ (C_parting hS hI (xs (7 * t + 1)) (xs (7 * t + 2)) (xs (7 * t + 3)) (Q := fun r M1 => r = a_parting S (xs (7 * t + 1)) (xs (7 * t + 2)) (xs (7 * t + 3)) ∧ InvC (t + 1) S M1 ∧ FrC M M1) (fun M1 h1 f1 => ⟨rfl, h1, f1⟩)))) (fun r0 M1 hw => ?_)
  obtain ⟨rfl, h1, f1⟩ := hw
  refine w_aload_n C 2 dL_law_427 rfl rfl ?_
  refine w_arg C X hL ht (a := 1) (by decide) (by decide) dL_law_428 dL_law_429 dL_law_430 dL_law_431 dL_law_432 ?_
  refine w_arg C X hL ht (a := 2) (by decide) (by decide) dL_law_433 dL_law_434 dL_law_435 dL_law_436 dL_law_437 ?_
  refine w_arg C X hL ht (a := 3) (by decide) (by decide) dL_law_438 dL_law_439 dL_law_440 dL_law_441 dL_law_442 ?_
  refine back_I (run_V C HR ml_X10_parting (ci := 10) rfl (by decide) (Nat.le_of_ble_eq_true rfl) gl1274 gl1275 gl1273 (by decide) rfl (Nat.le_of_ble_eq_true rfl) dL_law_443 (As := [.int (xs (7 * t + 1)), .int (xs (7 * t + 2)), .int (xs (7 * t + 3))]) rfl (c_X10_parting _ _ _ _ _ (R_parting hS (hJ.frC f1) (xs (7 * t + 1)) (xs (7 * t + 2)) (xs (7 * t + 3)) (Q := fun r M2 => r = a_parting S (xs (7 * t + 1)) (xs (7 * t + 2)) (xs (7 * t + 3)) ∧ InvR S M2 ∧ FrR M1 M2) (fun M2 h2 f2 => ⟨rfl, h2, f2⟩)))) (fun r1 M2 hw => ?_)
  obtain ⟨rfl, h2, f2⟩ := hw
  refine w_icmp_eq C dL_law_446 (tgt := 1422) rfl (fun _ => ?_) (fun h => absurd rfl h)
  exact k _ _ hS (h1.frR f2) h2
theorem lc_event (C : Cx G n E R_law cL_law 4) (X : SX G E b L xs) (HR : RM E 16 648) (hL : L ≤ 3584) (ht : 7 * t + 7 ≤ L) (h512 : t < 512) (hS : SOK S) (hI : InvC t S M) (hJ : InvR S M) (k : ∀ M1 S1 : Mem, SOK S1 → InvC (t + 1) S1 M1 → InvR S1 M1 → WW G n E 4 Q 1422 (LV G b t) [] M1) : WW G n E 4 Q 451 (LV G b t) [] M := by
  refine w_aload_n C 1 dL_law_451 rfl rfl ?_
  refine w_arg C X hL ht (a := 1) (by decide) (by decide) dL_law_452 dL_law_453 dL_law_454 dL_law_455 dL_law_456 ?_
  refine w_arg C X hL ht (a := 2) (by decide) (by decide) dL_law_457 dL_law_458 dL_law_459 dL_law_460 dL_law_461 ?_
  refine w_arg C X hL ht (a := 3) (by decide) (by decide) dL_law_462 dL_law_463 dL_law_464 dL_law_465 dL_law_466 ?_
  refine w_arg C X hL ht (a := 4) (by decide) (by decide) dL_law_467 dL_law_468 dL_law_469 dL_law_470 dL_law_471 ?_
  refine back_I (run_V C HR ml_X9_event (ci := 9) rfl (by decide) (Nat.le_of_ble_eq_true rfl) gl619 gl620 gl618 (by decide) rfl (Nat.le_of_ble_eq_true rfl) dL_law_472 (As := [.int (xs (7 * t + 1)), .int (xs (7 * t + 2)), .int (xs (7 * t + 3)), .int (xs (7 * t + 4))]) rfl (c_X9_event _ _ _ _ _ _ (C_event hS hI (xs (7 * t + 1)) (xs (7 * t + 2)) (xs (7 * t + 3)) (xs (7 * t + 4)) (Q := fun r M1 => r = a_event S (xs (7 * t + 1)) (xs (7 * t + 2)) (xs (7 * t + 3)) (xs (7 * t + 4)) ∧ InvC (t + 1) S M1 ∧ FrC M M1) (fun M1 h1 f1 => ⟨rfl, h1, f1⟩)))) (fun r0 M1 hw => ?_)
  obtain ⟨rfl, h1, f1⟩ := hw
  refine w_aload_n C 2 dL_law_475 rfl rfl ?_
  refine w_arg C X hL ht (a := 1) (by decide) (by decide) dL_law_476 dL_law_477 dL_law_478 dL_law_479 dL_law_480 ?_
  refine w_arg C X hL ht (a := 2) (by decide) (by decide) dL_law_481 dL_law_482 dL_law_483 dL_law_484 dL_law_485 ?_
  refine w_arg C X hL ht (a := 3) (by decide) (by decide) dL_law_486 dL_law_487 dL_law_488 dL_law_489 dL_law_490 ?_
  refine w_arg C X hL ht (a := 4) (by decide) (by decide) dL_law_491 dL_law_492 dL_law_493 dL_law_494 dL_law_495 ?_
  refine back_I (run_V C HR ml_X10_event (ci := 10) rfl (by decide) (Nat.le_of_ble_eq_true rfl) gl1286 gl1287 gl1285 (by decide) rfl (Nat.le_of_ble_eq_true rfl) dL_law_496 (As := [.int (xs (7 * t + 1)), .int (xs (7 * t + 2)), .int (xs (7 * t + 3)), .int (xs (7 * t + 4))]) rfl (c_X10_event _ _ _ _ _ _ (R_event hS (hJ.frC f1) (xs (7 * t + 1)) (xs (7 * t + 2)) (xs (7 * t + 3)) (xs (7 * t + 4)) (Q := fun r M2 => r = a_event S (xs (7 * t + 1)) (xs (7 * t + 2)) (xs (7 * t + 3)) (xs (7 * t + 4)) ∧ InvR S M2 ∧ FrR M1 M2) (fun M2 h2 f2 => ⟨rfl, h2, f2⟩)))) (fun r1 M2 hw => ?_)
  obtain ⟨rfl, h2, f2⟩ := hw
  refine w_icmp_eq C dL_law_499 (tgt := 1422) rfl (fun _ => ?_) (fun h => absurd rfl h)
  exact k _ _ hS (h1.frR f2) h2
theorem lc_mended (C : Cx G n E R_law cL_law 4) (X : SX G E b L xs) (HR : RM E 16 648) (hL : L ≤ 3584) (ht : 7 * t + 7 ≤ L) (h512 : t < 512) (hS : SOK S) (hI : InvC t S M) (hJ : InvR S M) (k : ∀ M1 S1 : Mem, SOK S1 → InvC (t + 1) S1 M1 → InvR S1 M1 → WW G n E 4 Q 1422 (LV G b t) [] M1) : WW G n E 4 Q 504 (LV G b t) [] M := by
  refine w_aload_n C 1 dL_law_504 rfl rfl ?_
  refine w_arg C X hL ht (a := 1) (by decide) (by decide) dL_law_505 dL_law_506 dL_law_507 dL_law_508 dL_law_509 ?_
  refine w_arg C X hL ht (a := 2) (by decide) (by decide) dL_law_510 dL_law_511 dL_law_512 dL_law_513 dL_law_514 ?_
  refine back_I (run_V C HR ml_X9_mended (ci := 9) rfl (by decide) (Nat.le_of_ble_eq_true rfl) gl623 gl624 gl622 (by decide) rfl (Nat.le_of_ble_eq_true rfl) dL_law_515 (As := [.int (xs (7 * t + 1)), .int (xs (7 * t + 2))]) rfl (c_X9_mended _ _ _ _ (C_mended hS hI (xs (7 * t + 1)) (xs (7 * t + 2)) (Q := fun r M1 => r = a_mended S (xs (7 * t + 1)) (xs (7 * t + 2)) ∧ InvC (t + 1) S M1 ∧ FrC M M1) (fun M1 h1 f1 => ⟨rfl, h1, f1⟩)))) (fun r0 M1 hw => ?_)
  obtain ⟨rfl, h1, f1⟩ := hw
  refine w_aload_n C 2 dL_law_518 rfl rfl ?_
  refine w_arg C X hL ht (a := 1) (by decide) (by decide) dL_law_519 dL_law_520 dL_law_521 dL_law_522 dL_law_523 ?_
  refine w_arg C X hL ht (a := 2) (by decide) (by decide) dL_law_524 dL_law_525 dL_law_526 dL_law_527 dL_law_528 ?_
  refine back_I (run_V C HR ml_X10_mended (ci := 10) rfl (by decide) (Nat.le_of_ble_eq_true rfl) gl1290 gl1291 gl1289 (by decide) rfl (Nat.le_of_ble_eq_true rfl) dL_law_529 (As := [.int (xs (7 * t + 1)), .int (xs (7 * t + 2))]) rfl (c_X10_mended _ _ _ _ (R_mended hS (hJ.frC f1) (xs (7 * t + 1)) (xs (7 * t + 2)) (Q := fun r M2 => r = a_mended S (xs (7 * t + 1)) (xs (7 * t + 2)) ∧ InvR S M2 ∧ FrR M1 M2) (fun M2 h2 f2 => ⟨rfl, h2, f2⟩)))) (fun r1 M2 hw => ?_)
  obtain ⟨rfl, h2, f2⟩ := hw
  refine w_icmp_eq C dL_law_532 (tgt := 1422) rfl (fun _ => ?_) (fun h => absurd rfl h)
  exact k _ _ hS (h1.frR f2) h2
theorem lc_log (C : Cx G n E R_law cL_law 4) (X : SX G E b L xs) (HR : RM E 16 648) (hL : L ≤ 3584) (ht : 7 * t + 7 ≤ L) (h512 : t < 512) (hS : SOK S) (hI : InvC t S M) (hJ : InvR S M) (k : ∀ M1 S1 : Mem, SOK S1 → InvC (t + 1) S1 M1 → InvR S1 M1 → WW G n E 4 Q 1422 (LV G b t) [] M1) : WW G n E 4 Q 560 (LV G b t) [] M := by
  refine w_aload_n C 1 dL_law_560 rfl rfl ?_
  refine w_arg C X hL ht (a := 1) (by decide) (by decide) dL_law_561 dL_law_562 dL_law_563 dL_law_564 dL_law_565 ?_
  refine w_arg C X hL ht (a := 2) (by decide) (by decide) dL_law_566 dL_law_567 dL_law_568 dL_law_569 dL_law_570 ?_
  refine w_arg C X hL ht (a := 3) (by decide) (by decide) dL_law_571 dL_law_572 dL_law_573 dL_law_574 dL_law_575 ?_
  refine back_I (run_V C HR ml_X9_log (ci := 9) rfl (by decide) (Nat.le_of_ble_eq_true rfl) gl721 gl722 gl720 (by decide) rfl (Nat.le_of_ble_eq_true rfl) dL_law_576 (As := [.int (xs (7 * t + 1)), .int (xs (7 * t + 2)), .int (xs (7 * t + 3))]) rfl (c_X9_log _ _ _ _ _ (C_log hS hI (xs (7 * t + 1)) (xs (7 * t + 2)) (xs (7 * t + 3)) (Q := fun r M1 => r = a_log S (xs (7 * t + 1)) (xs (7 * t + 2)) (xs (7 * t + 3)) ∧ InvC (t + 1) (n_log S (xs (7 * t + 1)) (xs (7 * t + 2)) (xs (7 * t + 3))) M1 ∧ FrC M M1) (fun M1 h1 f1 => ⟨rfl, h1, f1⟩)))) (fun r0 M1 hw => ?_)
  obtain ⟨rfl, h1, f1⟩ := hw
  refine w_aload_n C 2 dL_law_579 rfl rfl ?_
  refine w_arg C X hL ht (a := 1) (by decide) (by decide) dL_law_580 dL_law_581 dL_law_582 dL_law_583 dL_law_584 ?_
  refine w_arg C X hL ht (a := 2) (by decide) (by decide) dL_law_585 dL_law_586 dL_law_587 dL_law_588 dL_law_589 ?_
  refine w_arg C X hL ht (a := 3) (by decide) (by decide) dL_law_590 dL_law_591 dL_law_592 dL_law_593 dL_law_594 ?_
  refine back_I (run_V C HR ml_X10_log (ci := 10) rfl (by decide) (Nat.le_of_ble_eq_true rfl) gl1301 gl1302 gl1300 (by decide) rfl (Nat.le_of_ble_eq_true rfl) dL_law_595 (As := [.int (xs (7 * t + 1)), .int (xs (7 * t + 2)), .int (xs (7 * t + 3))]) rfl (c_X10_log _ _ _ _ _ (R_log hS (hJ.frC f1) (xs (7 * t + 1)) (xs (7 * t + 2)) (xs (7 * t + 3)) (Q := fun r M2 => r = a_log S (xs (7 * t + 1)) (xs (7 * t + 2)) (xs (7 * t + 3)) ∧ InvR (n_log S (xs (7 * t + 1)) (xs (7 * t + 2)) (xs (7 * t + 3))) M2 ∧ FrR M1 M2) (fun M2 h2 f2 => ⟨rfl, h2, f2⟩)))) (fun r1 M2 hw => ?_)
  obtain ⟨rfl, h2, f2⟩ := hw
  refine w_icmp_eq C dL_law_598 (tgt := 1422) rfl (fun _ => ?_) (fun h => absurd rfl h)
  exact k _ _ (S_log hS (xs (7 * t + 1)) (xs (7 * t + 2)) (xs (7 * t + 3))) (h1.frR f2) h2
theorem lc_claim (C : Cx G n E R_law cL_law 4) (X : SX G E b L xs) (HR : RM E 16 648) (hL : L ≤ 3584) (ht : 7 * t + 7 ≤ L) (h512 : t < 512) (hS : SOK S) (hI : InvC t S M) (hJ : InvR S M) (k : ∀ M1 S1 : Mem, SOK S1 → InvC (t + 1) S1 M1 → InvR S1 M1 → WW G n E 4 Q 1422 (LV G b t) [] M1) : WW G n E 4 Q 603 (LV G b t) [] M := by
  refine w_aload_n C 1 dL_law_603 rfl rfl ?_
  refine w_arg C X hL ht (a := 1) (by decide) (by decide) dL_law_604 dL_law_605 dL_law_606 dL_law_607 dL_law_608 ?_
  refine w_arg C X hL ht (a := 2) (by decide) (by decide) dL_law_609 dL_law_610 dL_law_611 dL_law_612 dL_law_613 ?_
  refine w_arg C X hL ht (a := 3) (by decide) (by decide) dL_law_614 dL_law_615 dL_law_616 dL_law_617 dL_law_618 ?_
  refine back_I (run_V C HR ml_X9_claim (ci := 9) rfl (by decide) (Nat.le_of_ble_eq_true rfl) gl739 gl740 gl738 (by decide) rfl (Nat.le_of_ble_eq_true rfl) dL_law_619 (As := [.int (xs (7 * t + 1)), .int (xs (7 * t + 2)), .int (xs (7 * t + 3))]) rfl (c_X9_claim _ _ _ _ _ (C_claim hS hI (xs (7 * t + 1)) (xs (7 * t + 2)) (xs (7 * t + 3)) (Q := fun r M1 => r = a_claim S (xs (7 * t + 1)) (xs (7 * t + 2)) (xs (7 * t + 3)) ∧ InvC (t + 1) (n_claim S (xs (7 * t + 1)) (xs (7 * t + 2)) (xs (7 * t + 3))) M1 ∧ FrC M M1) (fun M1 h1 f1 => ⟨rfl, h1, f1⟩)))) (fun r0 M1 hw => ?_)
  obtain ⟨rfl, h1, f1⟩ := hw
  refine w_aload_n C 2 dL_law_622 rfl rfl ?_
  refine w_arg C X hL ht (a := 1) (by decide) (by decide) dL_law_623 dL_law_624 dL_law_625 dL_law_626 dL_law_627 ?_
  refine w_arg C X hL ht (a := 2) (by decide) (by decide) dL_law_628 dL_law_629 dL_law_630 dL_law_631 dL_law_632 ?_
  refine w_arg C X hL ht (a := 3) (by decide) (by decide) dL_law_633 dL_law_634 dL_law_635 dL_law_636 dL_law_637 ?_
  refine back_I (run_V C HR ml_X10_claim (ci := 10) rfl (by decide) (Nat.le_of_ble_eq_true rfl) gl1313 gl1314 gl1312 (by decide) rfl (Nat.le_of_ble_eq_true rfl) dL_law_638 (As := [.int (xs (7 * t + 1)), .int (xs (7 * t + 2)), .int (xs (7 * t + 3))]) rfl (c_X10_claim _ _ _ _ _ (R_claim hS (hJ.frC f1) (xs (7 * t + 1)) (xs (7 * t + 2)) (xs (7 * t + 3)) (Q := fun r M2 => r = a_claim S (xs (7 * t + 1)) (xs (7 * t + 2)) (xs (7 * t + 3)) ∧ InvR (n_claim S (xs (7 * t + 1)) (xs (7 * t + 2)) (xs (7 * t + 3))) M2 ∧ FrR M1 M2) (fun M2 h2 f2 => ⟨rfl, h2, f2⟩)))) (fun r1 M2 hw => ?_)
  obtain ⟨rfl, h2, f2⟩ := hw
  refine w_icmp_eq C dL_law_641 (tgt := 1422) rfl (fun _ => ?_) (fun h => absurd rfl h)
  exact k _ _ (S_claim hS (xs (7 * t + 1)) (xs (7 * t + 2)) (xs (7 * t + 3))) (h1.frR f2) h2
theorem lc_about (C : Cx G n E R_law cL_law 4) (X : SX G E b L xs) (HR : RM E 16 648) (hL : L ≤ 3584) (ht : 7 * t + 7 ≤ L) (h512 : t < 512) (hS : SOK S) (hI : InvC t S M) (hJ : InvR S M) (k : ∀ M1 S1 : Mem, SOK S1 → InvC (t + 1) S1 M1 → InvR S1 M1 → WW G n E 4 Q 1422 (LV G b t) [] M1) : WW G n E 4 Q 646 (LV G b t) [] M := by
  refine w_aload_n C 1 dL_law_646 rfl rfl ?_
  refine w_arg C X hL ht (a := 1) (by decide) (by decide) dL_law_647 dL_law_648 dL_law_649 dL_law_650 dL_law_651 ?_
  refine w_arg C X hL ht (a := 2) (by decide) (by decide) dL_law_652 dL_law_653 dL_law_654 dL_law_655 dL_law_656 ?_
  refine back_I (run_V C HR ml_X9_about (ci := 9) rfl (by decide) (Nat.le_of_ble_eq_true rfl) gl745 gl746 gl744 (by decide) rfl (Nat.le_of_ble_eq_true rfl) dL_law_657 (As := [.int (xs (7 * t + 1)), .int (xs (7 * t + 2))]) rfl (c_X9_about _ _ _ _ (C_about hS hI (xs (7 * t + 1)) (xs (7 * t + 2)) (Q := fun r M1 => r = a_about S (xs (7 * t + 1)) (xs (7 * t + 2)) ∧ M1 = M) ⟨rfl, rfl⟩))) (fun r0 M1 hw => ?_)
  obtain ⟨rfl, rfl⟩ := hw
  refine w_aload_n C 2 dL_law_660 rfl rfl ?_
  refine w_arg C X hL ht (a := 1) (by decide) (by decide) dL_law_661 dL_law_662 dL_law_663 dL_law_664 dL_law_665 ?_
  refine w_arg C X hL ht (a := 2) (by decide) (by decide) dL_law_666 dL_law_667 dL_law_668 dL_law_669 dL_law_670 ?_
  refine back_I (run_V C HR ml_X10_about (ci := 10) rfl (by decide) (Nat.le_of_ble_eq_true rfl) gl1317 gl1318 gl1316 (by decide) rfl (Nat.le_of_ble_eq_true rfl) dL_law_671 (As := [.int (xs (7 * t + 1)), .int (xs (7 * t + 2))]) rfl (c_X10_about _ _ _ _ (R_about hS hJ (xs (7 * t + 1)) (xs (7 * t + 2)) (Q := fun r M2 => r = a_about S (xs (7 * t + 1)) (xs (7 * t + 2)) ∧ M2 = M1) ⟨rfl, rfl⟩))) (fun r1 M2 hw => ?_)
  obtain ⟨rfl, rfl⟩ := hw
  refine w_icmp_eq C dL_law_674 (tgt := 1422) rfl (fun _ => ?_) (fun h => absurd rfl h)
  exact k _ _ hS hI.more hJ
theorem lc_tell (C : Cx G n E R_law cL_law 4) (X : SX G E b L xs) (HR : RM E 16 648) (hL : L ≤ 3584) (ht : 7 * t + 7 ≤ L) (h512 : t < 512) (hS : SOK S) (hI : InvC t S M) (hJ : InvR S M) (k : ∀ M1 S1 : Mem, SOK S1 → InvC (t + 1) S1 M1 → InvR S1 M1 → WW G n E 4 Q 1422 (LV G b t) [] M1) : WW G n E 4 Q 679 (LV G b t) [] M := by
  refine w_aload_n C 1 dL_law_679 rfl rfl ?_
  refine w_arg C X hL ht (a := 1) (by decide) (by decide) dL_law_680 dL_law_681 dL_law_682 dL_law_683 dL_law_684 ?_
  refine w_arg C X hL ht (a := 2) (by decide) (by decide) dL_law_685 dL_law_686 dL_law_687 dL_law_688 dL_law_689 ?_
  refine w_arg C X hL ht (a := 3) (by decide) (by decide) dL_law_690 dL_law_691 dL_law_692 dL_law_693 dL_law_694 ?_
  refine back_I (run_V C HR ml_X9_tell (ci := 9) rfl (by decide) (Nat.le_of_ble_eq_true rfl) gl757 gl758 gl756 (by decide) rfl (Nat.le_of_ble_eq_true rfl) dL_law_695 (As := [.int (xs (7 * t + 1)), .int (xs (7 * t + 2)), .int (xs (7 * t + 3))]) rfl (c_X9_tell _ _ _ _ _ (C_tell hS hI (xs (7 * t + 1)) (xs (7 * t + 2)) (xs (7 * t + 3)) (Q := fun r M1 => r = a_tell S (xs (7 * t + 1)) (xs (7 * t + 2)) (xs (7 * t + 3)) ∧ InvC (t + 1) (n_tell S (xs (7 * t + 1)) (xs (7 * t + 2)) (xs (7 * t + 3))) M1 ∧ FrC M M1) (fun M1 h1 f1 => ⟨rfl, h1, f1⟩)))) (fun r0 M1 hw => ?_)
  obtain ⟨rfl, h1, f1⟩ := hw
  refine w_aload_n C 2 dL_law_698 rfl rfl ?_
  refine w_arg C X hL ht (a := 1) (by decide) (by decide) dL_law_699 dL_law_700 dL_law_701 dL_law_702 dL_law_703 ?_
  refine w_arg C X hL ht (a := 2) (by decide) (by decide) dL_law_704 dL_law_705 dL_law_706 dL_law_707 dL_law_708 ?_
  refine w_arg C X hL ht (a := 3) (by decide) (by decide) dL_law_709 dL_law_710 dL_law_711 dL_law_712 dL_law_713 ?_
  refine back_I (run_V C HR ml_X10_tell (ci := 10) rfl (by decide) (Nat.le_of_ble_eq_true rfl) gl1333 gl1334 gl1332 (by decide) rfl (Nat.le_of_ble_eq_true rfl) dL_law_714 (As := [.int (xs (7 * t + 1)), .int (xs (7 * t + 2)), .int (xs (7 * t + 3))]) rfl (c_X10_tell _ _ _ _ _ (R_tell hS (hJ.frC f1) (xs (7 * t + 1)) (xs (7 * t + 2)) (xs (7 * t + 3)) (Q := fun r M2 => r = a_tell S (xs (7 * t + 1)) (xs (7 * t + 2)) (xs (7 * t + 3)) ∧ InvR (n_tell S (xs (7 * t + 1)) (xs (7 * t + 2)) (xs (7 * t + 3))) M2 ∧ FrR M1 M2) (fun M2 h2 f2 => ⟨rfl, h2, f2⟩)))) (fun r1 M2 hw => ?_)
  obtain ⟨rfl, h2, f2⟩ := hw
  refine w_icmp_eq C dL_law_717 (tgt := 1422) rfl (fun _ => ?_) (fun h => absurd rfl h)
  exact k _ _ (S_tell hS (xs (7 * t + 1)) (xs (7 * t + 2)) (xs (7 * t + 3))) (h1.frR f2) h2
theorem lc_logged (C : Cx G n E R_law cL_law 4) (X : SX G E b L xs) (HR : RM E 16 648) (hL : L ≤ 3584) (ht : 7 * t + 7 ≤ L) (h512 : t < 512) (hS : SOK S) (hI : InvC t S M) (hJ : InvR S M) (k : ∀ M1 S1 : Mem, SOK S1 → InvC (t + 1) S1 M1 → InvR S1 M1 → WW G n E 4 Q 1422 (LV G b t) [] M1) : WW G n E 4 Q 722 (LV G b t) [] M := by
  refine w_aload_n C 1 dL_law_722 rfl rfl ?_
  refine w_arg C X hL ht (a := 1) (by decide) (by decide) dL_law_723 dL_law_724 dL_law_725 dL_law_726 dL_law_727 ?_
  refine w_arg C X hL ht (a := 2) (by decide) (by decide) dL_law_728 dL_law_729 dL_law_730 dL_law_731 dL_law_732 ?_
  refine back_I (run_V C HR ml_X9_logged (ci := 9) rfl (by decide) (Nat.le_of_ble_eq_true rfl) gl765 gl766 gl764 (by decide) rfl (Nat.le_of_ble_eq_true rfl) dL_law_733 (As := [.int (xs (7 * t + 1)), .int (xs (7 * t + 2))]) rfl (c_X9_logged _ _ _ _ (C_logged hS hI (xs (7 * t + 1)) (xs (7 * t + 2)) (Q := fun r M1 => r = a_logged S (xs (7 * t + 1)) (xs (7 * t + 2)) ∧ M1 = M) ⟨rfl, rfl⟩))) (fun r0 M1 hw => ?_)
  obtain ⟨rfl, rfl⟩ := hw
  refine w_aload_n C 2 dL_law_736 rfl rfl ?_
  refine w_arg C X hL ht (a := 1) (by decide) (by decide) dL_law_737 dL_law_738 dL_law_739 dL_law_740 dL_law_741 ?_
  refine w_arg C X hL ht (a := 2) (by decide) (by decide) dL_law_742 dL_law_743 dL_law_744 dL_law_745 dL_law_746 ?_
  refine back_I (run_V C HR ml_X10_logged (ci := 10) rfl (by decide) (Nat.le_of_ble_eq_true rfl) gl1337 gl1338 gl1336 (by decide) rfl (Nat.le_of_ble_eq_true rfl) dL_law_747 (As := [.int (xs (7 * t + 1)), .int (xs (7 * t + 2))]) rfl (c_X10_logged _ _ _ _ (R_logged hS hJ (xs (7 * t + 1)) (xs (7 * t + 2)) (Q := fun r M2 => r = a_logged S (xs (7 * t + 1)) (xs (7 * t + 2)) ∧ M2 = M1) ⟨rfl, rfl⟩))) (fun r1 M2 hw => ?_)
  obtain ⟨rfl, rfl⟩ := hw
  refine w_icmp_eq C dL_law_750 (tgt := 1422) rfl (fun _ => ?_) (fun h => absurd rfl h)
  exact k _ _ hS hI.more hJ
theorem lc_fills (C : Cx G n E R_law cL_law 4) (X : SX G E b L xs) (HR : RM E 16 648) (hL : L ≤ 3584) (ht : 7 * t + 7 ≤ L) (h512 : t < 512) (hS : SOK S) (hI : InvC t S M) (hJ : InvR S M) (k : ∀ M1 S1 : Mem, SOK S1 → InvC (t + 1) S1 M1 → InvR S1 M1 → WW G n E 4 Q 1422 (LV G b t) [] M1) : WW G n E 4 Q 755 (LV G b t) [] M := by
  refine w_aload_n C 1 dL_law_755 rfl rfl ?_
  refine w_arg C X hL ht (a := 1) (by decide) (by decide) dL_law_756 dL_law_757 dL_law_758 dL_law_759 dL_law_760 ?_
  refine w_arg C X hL ht (a := 2) (by decide) (by decide) dL_law_761 dL_law_762 dL_law_763 dL_law_764 dL_law_765 ?_
  refine back_I (run_V C HR ml_X9_fills (ci := 9) rfl (by decide) (Nat.le_of_ble_eq_true rfl) gl769 gl770 gl768 (by decide) rfl (Nat.le_of_ble_eq_true rfl) dL_law_766 (As := [.int (xs (7 * t + 1)), .int (xs (7 * t + 2))]) rfl (c_X9_fills _ _ _ _ (C_fills hS hI (xs (7 * t + 1)) (xs (7 * t + 2)) (Q := fun r M1 => r = a_fills S (xs (7 * t + 1)) (xs (7 * t + 2)) ∧ InvC (t + 1) S M1 ∧ FrC M M1) (fun M1 h1 f1 => ⟨rfl, h1, f1⟩)))) (fun r0 M1 hw => ?_)
  obtain ⟨rfl, h1, f1⟩ := hw
  refine w_aload_n C 2 dL_law_769 rfl rfl ?_
  refine w_arg C X hL ht (a := 1) (by decide) (by decide) dL_law_770 dL_law_771 dL_law_772 dL_law_773 dL_law_774 ?_
  refine w_arg C X hL ht (a := 2) (by decide) (by decide) dL_law_775 dL_law_776 dL_law_777 dL_law_778 dL_law_779 ?_
  refine back_I (run_V C HR ml_X10_fills (ci := 10) rfl (by decide) (Nat.le_of_ble_eq_true rfl) gl1341 gl1342 gl1340 (by decide) rfl (Nat.le_of_ble_eq_true rfl) dL_law_780 (As := [.int (xs (7 * t + 1)), .int (xs (7 * t + 2))]) rfl (c_X10_fills _ _ _ _ (R_fills hS (hJ.frC f1) (xs (7 * t + 1)) (xs (7 * t + 2)) (Q := fun r M2 => r = a_fills S (xs (7 * t + 1)) (xs (7 * t + 2)) ∧ InvR S M2 ∧ FrR M1 M2) (fun M2 h2 f2 => ⟨rfl, h2, f2⟩)))) (fun r1 M2 hw => ?_)
  obtain ⟨rfl, h2, f2⟩ := hw
  refine w_icmp_eq C dL_law_783 (tgt := 1422) rfl (fun _ => ?_) (fun h => absurd rfl h)
  exact k _ _ hS (h1.frR f2) h2
theorem lc_causes (C : Cx G n E R_law cL_law 4) (X : SX G E b L xs) (HR : RM E 16 648) (hL : L ≤ 3584) (ht : 7 * t + 7 ≤ L) (h512 : t < 512) (hS : SOK S) (hI : InvC t S M) (hJ : InvR S M) (k : ∀ M1 S1 : Mem, SOK S1 → InvC (t + 1) S1 M1 → InvR S1 M1 → WW G n E 4 Q 1422 (LV G b t) [] M1) : WW G n E 4 Q 788 (LV G b t) [] M := by
  refine w_aload_n C 1 dL_law_788 rfl rfl ?_
  refine w_arg C X hL ht (a := 1) (by decide) (by decide) dL_law_789 dL_law_790 dL_law_791 dL_law_792 dL_law_793 ?_
  refine back_I (run_V C HR ml_X9_causes (ci := 9) rfl (by decide) (Nat.le_of_ble_eq_true rfl) gl846 gl847 gl845 (by decide) rfl (Nat.le_of_ble_eq_true rfl) dL_law_794 (As := [.int (xs (7 * t + 1))]) rfl (c_X9_causes _ _ _ (C_causes hS hI (xs (7 * t + 1)) (Q := fun r M1 => r = a_causes S (xs (7 * t + 1)) ∧ InvC (t + 1) S M1 ∧ FrC M M1) (fun M1 h1 f1 => ⟨rfl, h1, f1⟩)))) (fun r0 M1 hw => ?_)
  obtain ⟨rfl, h1, f1⟩ := hw
  refine w_aload_n C 2 dL_law_797 rfl rfl ?_
  refine w_arg C X hL ht (a := 1) (by decide) (by decide) dL_law_798 dL_law_799 dL_law_800 dL_law_801 dL_law_802 ?_
  refine back_I (run_V C HR ml_X10_causes (ci := 10) rfl (by decide) (Nat.le_of_ble_eq_true rfl) gl1372 gl1373 gl1371 (by decide) rfl (Nat.le_of_ble_eq_true rfl) dL_law_803 (As := [.int (xs (7 * t + 1))]) rfl (c_X10_causes _ _ _ (R_causes hS (hJ.frC f1) (xs (7 * t + 1)) (Q := fun r M2 => r = a_causes S (xs (7 * t + 1)) ∧ InvR S M2 ∧ FrR M1 M2) (fun M2 h2 f2 => ⟨rfl, h2, f2⟩)))) (fun r1 M2 hw => ?_)
  obtain ⟨rfl, h2, f2⟩ := hw
  refine w_icmp_eq C dL_law_806 (tgt := 1422) rfl (fun _ => ?_) (fun h => absurd rfl h)
  exact k _ _ hS (h1.frR f2) h2
theorem lc_settling (C : Cx G n E R_law cL_law 4) (X : SX G E b L xs) (HR : RM E 16 648) (hL : L ≤ 3584) (ht : 7 * t + 7 ≤ L) (h512 : t < 512) (hS : SOK S) (hI : InvC t S M) (hJ : InvR S M) (k : ∀ M1 S1 : Mem, SOK S1 → InvC (t + 1) S1 M1 → InvR S1 M1 → WW G n E 4 Q 1422 (LV G b t) [] M1) : WW G n E 4 Q 811 (LV G b t) [] M := by
  refine w_aload_n C 1 dL_law_811 rfl rfl ?_
  refine w_arg C X hL ht (a := 1) (by decide) (by decide) dL_law_812 dL_law_813 dL_law_814 dL_law_815 dL_law_816 ?_
  refine w_arg C X hL ht (a := 2) (by decide) (by decide) dL_law_817 dL_law_818 dL_law_819 dL_law_820 dL_law_821 ?_
  refine back_I (run_V C HR ml_X9_settling (ci := 9) rfl (by decide) (Nat.le_of_ble_eq_true rfl) gl850 gl851 gl849 (by decide) rfl (Nat.le_of_ble_eq_true rfl) dL_law_822 (As := [.int (xs (7 * t + 1)), .int (xs (7 * t + 2))]) rfl (c_X9_settling _ _ _ _ (C_settling hS hI (xs (7 * t + 1)) (xs (7 * t + 2)) (Q := fun r M1 => r = a_settling S (xs (7 * t + 1)) (xs (7 * t + 2)) ∧ InvC (t + 1) S M1 ∧ FrC M M1) (fun M1 h1 f1 => ⟨rfl, h1, f1⟩)))) (fun r0 M1 hw => ?_)
  obtain ⟨rfl, h1, f1⟩ := hw
  refine w_aload_n C 2 dL_law_825 rfl rfl ?_
  refine w_arg C X hL ht (a := 1) (by decide) (by decide) dL_law_826 dL_law_827 dL_law_828 dL_law_829 dL_law_830 ?_
  refine w_arg C X hL ht (a := 2) (by decide) (by decide) dL_law_831 dL_law_832 dL_law_833 dL_law_834 dL_law_835 ?_
  refine back_I (run_V C HR ml_X10_settling (ci := 10) rfl (by decide) (Nat.le_of_ble_eq_true rfl) gl1376 gl1377 gl1375 (by decide) rfl (Nat.le_of_ble_eq_true rfl) dL_law_836 (As := [.int (xs (7 * t + 1)), .int (xs (7 * t + 2))]) rfl (c_X10_settling _ _ _ _ (R_settling hS (hJ.frC f1) (xs (7 * t + 1)) (xs (7 * t + 2)) (Q := fun r M2 => r = a_settling S (xs (7 * t + 1)) (xs (7 * t + 2)) ∧ InvR S M2 ∧ FrR M1 M2) (fun M2 h2 f2 => ⟨rfl, h2, f2⟩)))) (fun r1 M2 hw => ?_)
  obtain ⟨rfl, h2, f2⟩ := hw
  refine w_icmp_eq C dL_law_839 (tgt := 1422) rfl (fun _ => ?_) (fun h => absurd rfl h)
  exact k _ _ hS (h1.frR f2) h2
theorem lc_like (C : Cx G n E R_law cL_law 4) (X : SX G E b L xs) (HR : RM E 16 648) (hL : L ≤ 3584) (ht : 7 * t + 7 ≤ L) (h512 : t < 512) (hS : SOK S) (hI : InvC t S M) (hJ : InvR S M) (k : ∀ M1 S1 : Mem, SOK S1 → InvC (t + 1) S1 M1 → InvR S1 M1 → WW G n E 4 Q 1422 (LV G b t) [] M1) : WW G n E 4 Q 844 (LV G b t) [] M := by
  refine w_aload_n C 1 dL_law_844 rfl rfl ?_
  refine w_arg C X hL ht (a := 1) (by decide) (by decide) dL_law_845 dL_law_846 dL_law_847 dL_law_848 dL_law_849 ?_
  refine w_arg C X hL ht (a := 2) (by decide) (by decide) dL_law_850 dL_law_851 dL_law_852 dL_law_853 dL_law_854 ?_
  refine back_I (run_V C HR ml_X9_like (ci := 9) rfl (by decide) (Nat.le_of_ble_eq_true rfl) gl854 gl855 gl853 (by decide) rfl (Nat.le_of_ble_eq_true rfl) dL_law_855 (As := [.int (xs (7 * t + 1)), .int (xs (7 * t + 2))]) rfl (c_X9_like _ _ _ _ (C_like hS hI (xs (7 * t + 1)) (xs (7 * t + 2)) (Q := fun r M1 => r = a_like S (xs (7 * t + 1)) (xs (7 * t + 2)) ∧ M1 = M) ⟨rfl, rfl⟩))) (fun r0 M1 hw => ?_)
  obtain ⟨rfl, rfl⟩ := hw
  refine w_aload_n C 2 dL_law_858 rfl rfl ?_
  refine w_arg C X hL ht (a := 1) (by decide) (by decide) dL_law_859 dL_law_860 dL_law_861 dL_law_862 dL_law_863 ?_
  refine w_arg C X hL ht (a := 2) (by decide) (by decide) dL_law_864 dL_law_865 dL_law_866 dL_law_867 dL_law_868 ?_
  refine back_I (run_V C HR ml_X10_like (ci := 10) rfl (by decide) (Nat.le_of_ble_eq_true rfl) gl1384 gl1385 gl1383 (by decide) rfl (Nat.le_of_ble_eq_true rfl) dL_law_869 (As := [.int (xs (7 * t + 1)), .int (xs (7 * t + 2))]) rfl (c_X10_like _ _ _ _ (R_like hS hJ (xs (7 * t + 1)) (xs (7 * t + 2)) (Q := fun r M2 => r = a_like S (xs (7 * t + 1)) (xs (7 * t + 2)) ∧ M2 = M1) ⟨rfl, rfl⟩))) (fun r1 M2 hw => ?_)
  obtain ⟨rfl, rfl⟩ := hw
  refine w_icmp_eq C dL_law_872 (tgt := 1422) rfl (fun _ => ?_) (fun h => absurd rfl h)
  exact k _ _ hS hI.more hJ
theorem lc_pay (C : Cx G n E R_law cL_law 4) (X : SX G E b L xs) (HR : RM E 16 648) (hL : L ≤ 3584) (ht : 7 * t + 7 ≤ L) (h512 : t < 512) (hS : SOK S) (hI : InvC t S M) (hJ : InvR S M) (k : ∀ M1 S1 : Mem, SOK S1 → InvC (t + 1) S1 M1 → InvR S1 M1 → WW G n E 4 Q 1422 (LV G b t) [] M1) : WW G n E 4 Q 877 (LV G b t) [] M := by
  refine w_aload_n C 1 dL_law_877 rfl rfl ?_
  refine w_arg C X hL ht (a := 1) (by decide) (by decide) dL_law_878 dL_law_879 dL_law_880 dL_law_881 dL_law_882 ?_
  refine w_arg C X hL ht (a := 2) (by decide) (by decide) dL_law_883 dL_law_884 dL_law_885 dL_law_886 dL_law_887 ?_
  refine w_arg C X hL ht (a := 3) (by decide) (by decide) dL_law_888 dL_law_889 dL_law_890 dL_law_891 dL_law_892 ?_
  refine back_I (run_V C HR ml_X9_pay (ci := 9) rfl (by decide) (Nat.le_of_ble_eq_true rfl) gl871 gl872 gl870 (by decide) rfl (Nat.le_of_ble_eq_true rfl) dL_law_893 (As := [.int (xs (7 * t + 1)), .int (xs (7 * t + 2)), .int (xs (7 * t + 3))]) rfl (c_X9_pay _ _ _ _ _ (C_pay hS hI (xs (7 * t + 1)) (xs (7 * t + 2)) (xs (7 * t + 3)) (Q := fun r M1 => r = a_pay S (xs (7 * t + 1)) (xs (7 * t + 2)) (xs (7 * t + 3)) ∧ InvC (t + 1) (n_pay S (xs (7 * t + 1)) (xs (7 * t + 2)) (xs (7 * t + 3))) M1 ∧ FrC M M1) (fun M1 h1 f1 => ⟨rfl, h1, f1⟩)))) (fun r0 M1 hw => ?_)
  obtain ⟨rfl, h1, f1⟩ := hw
  refine w_aload_n C 2 dL_law_896 rfl rfl ?_
  refine w_arg C X hL ht (a := 1) (by decide) (by decide) dL_law_897 dL_law_898 dL_law_899 dL_law_900 dL_law_901 ?_
  refine w_arg C X hL ht (a := 2) (by decide) (by decide) dL_law_902 dL_law_903 dL_law_904 dL_law_905 dL_law_906 ?_
  refine w_arg C X hL ht (a := 3) (by decide) (by decide) dL_law_907 dL_law_908 dL_law_909 dL_law_910 dL_law_911 ?_
  refine back_I (run_V C HR ml_X10_pay (ci := 10) rfl (by decide) (Nat.le_of_ble_eq_true rfl) gl1392 gl1393 gl1391 (by decide) rfl (Nat.le_of_ble_eq_true rfl) dL_law_912 (As := [.int (xs (7 * t + 1)), .int (xs (7 * t + 2)), .int (xs (7 * t + 3))]) rfl (c_X10_pay _ _ _ _ _ (R_pay hS (hJ.frC f1) (xs (7 * t + 1)) (xs (7 * t + 2)) (xs (7 * t + 3)) (Q := fun r M2 => r = a_pay S (xs (7 * t + 1)) (xs (7 * t + 2)) (xs (7 * t + 3)) ∧ InvR (n_pay S (xs (7 * t + 1)) (xs (7 * t + 2)) (xs (7 * t + 3))) M2 ∧ FrR M1 M2) (fun M2 h2 f2 => ⟨rfl, h2, f2⟩)))) (fun r1 M2 hw => ?_)
  obtain ⟨rfl, h2, f2⟩ := hw
  refine w_icmp_eq C dL_law_915 (tgt := 1422) rfl (fun _ => ?_) (fun h => absurd rfl h)
  exact k _ _ (S_pay hS (xs (7 * t + 1)) (xs (7 * t + 2)) (xs (7 * t + 3))) (h1.frR f2) h2
theorem lc_interest (C : Cx G n E R_law cL_law 4) (X : SX G E b L xs) (HR : RM E 16 648) (hL : L ≤ 3584) (ht : 7 * t + 7 ≤ L) (h512 : t < 512) (hS : SOK S) (hI : InvC t S M) (hJ : InvR S M) (k : ∀ M1 S1 : Mem, SOK S1 → InvC (t + 1) S1 M1 → InvR S1 M1 → WW G n E 4 Q 1422 (LV G b t) [] M1) : WW G n E 4 Q 920 (LV G b t) [] M := by
  refine w_aload_n C 1 dL_law_920 rfl rfl ?_
  refine w_arg C X hL ht (a := 1) (by decide) (by decide) dL_law_921 dL_law_922 dL_law_923 dL_law_924 dL_law_925 ?_
  refine back_I (run_V C HR ml_X9_interest (ci := 9) rfl (by decide) (Nat.le_of_ble_eq_true rfl) gl882 gl883 gl881 (by decide) rfl (Nat.le_of_ble_eq_true rfl) dL_law_926 (As := [.int (xs (7 * t + 1))]) rfl (c_X9_interest _ _ _ (C_interest hI (xs (7 * t + 1)) (Q := fun r M1 => r = a_interest S (xs (7 * t + 1)) ∧ InvC (t + 1) (n_interest S (xs (7 * t + 1))) M1 ∧ FrC M M1) (fun M1 h1 f1 => ⟨rfl, h1, f1⟩)))) (fun r0 M1 hw => ?_)
  obtain ⟨rfl, h1, f1⟩ := hw
  refine w_aload_n C 2 dL_law_929 rfl rfl ?_
  refine w_arg C X hL ht (a := 1) (by decide) (by decide) dL_law_930 dL_law_931 dL_law_932 dL_law_933 dL_law_934 ?_
  refine back_I (run_V C HR ml_X10_interest (ci := 10) rfl (by decide) (Nat.le_of_ble_eq_true rfl) gl1396 gl1397 gl1395 (by decide) rfl (Nat.le_of_ble_eq_true rfl) dL_law_935 (As := [.int (xs (7 * t + 1))]) rfl (c_X10_interest _ _ _ (R_interest (hJ.frC f1) (xs (7 * t + 1)) (Q := fun r M2 => r = a_interest S (xs (7 * t + 1)) ∧ InvR (n_interest S (xs (7 * t + 1))) M2 ∧ FrR M1 M2) (fun M2 h2 f2 => ⟨rfl, h2, f2⟩)))) (fun r1 M2 hw => ?_)
  obtain ⟨rfl, h2, f2⟩ := hw
  refine w_icmp_eq C dL_law_938 (tgt := 1422) rfl (fun _ => ?_) (fun h => absurd rfl h)
  exact k _ _ (S_interest hS (xs (7 * t + 1))) (h1.frR f2) h2
theorem lc_owed (C : Cx G n E R_law cL_law 4) (X : SX G E b L xs) (HR : RM E 16 648) (hL : L ≤ 3584) (ht : 7 * t + 7 ≤ L) (h512 : t < 512) (hS : SOK S) (hI : InvC t S M) (hJ : InvR S M) (k : ∀ M1 S1 : Mem, SOK S1 → InvC (t + 1) S1 M1 → InvR S1 M1 → WW G n E 4 Q 1422 (LV G b t) [] M1) : WW G n E 4 Q 943 (LV G b t) [] M := by
  refine w_aload_n C 1 dL_law_943 rfl rfl ?_
  refine w_arg C X hL ht (a := 1) (by decide) (by decide) dL_law_944 dL_law_945 dL_law_946 dL_law_947 dL_law_948 ?_
  refine w_arg C X hL ht (a := 2) (by decide) (by decide) dL_law_949 dL_law_950 dL_law_951 dL_law_952 dL_law_953 ?_
  refine back_I (run_V C HR ml_X9_owed (ci := 9) rfl (by decide) (Nat.le_of_ble_eq_true rfl) gl886 gl887 gl885 (by decide) rfl (Nat.le_of_ble_eq_true rfl) dL_law_954 (As := [.int (xs (7 * t + 1)), .int (xs (7 * t + 2))]) rfl (c_X9_owed _ _ _ _ (C_owed hS hI (xs (7 * t + 1)) (xs (7 * t + 2)) (Q := fun r M1 => r = a_owed S (xs (7 * t + 1)) (xs (7 * t + 2)) ∧ InvC (t + 1) S M1 ∧ FrC M M1) (fun M1 h1 f1 => ⟨rfl, h1, f1⟩)))) (fun r0 M1 hw => ?_)
  obtain ⟨rfl, h1, f1⟩ := hw
  refine w_aload_n C 2 dL_law_957 rfl rfl ?_
  refine w_arg C X hL ht (a := 1) (by decide) (by decide) dL_law_958 dL_law_959 dL_law_960 dL_law_961 dL_law_962 ?_
  refine w_arg C X hL ht (a := 2) (by decide) (by decide) dL_law_963 dL_law_964 dL_law_965 dL_law_966 dL_law_967 ?_
  refine back_I (run_V C HR ml_X10_owed (ci := 10) rfl (by decide) (Nat.le_of_ble_eq_true rfl) gl1400 gl1401 gl1399 (by decide) rfl (Nat.le_of_ble_eq_true rfl) dL_law_968 (As := [.int (xs (7 * t + 1)), .int (xs (7 * t + 2))]) rfl (c_X10_owed _ _ _ _ (R_owed hS (hJ.frC f1) (xs (7 * t + 1)) (xs (7 * t + 2)) (Q := fun r M2 => r = a_owed S (xs (7 * t + 1)) (xs (7 * t + 2)) ∧ InvR S M2 ∧ FrR M1 M2) (fun M2 h2 f2 => ⟨rfl, h2, f2⟩)))) (fun r1 M2 hw => ?_)
  obtain ⟨rfl, h2, f2⟩ := hw
  refine w_icmp_eq C dL_law_971 (tgt := 1422) rfl (fun _ => ?_) (fun h => absurd rfl h)
  exact k _ _ hS (h1.frR f2) h2
theorem lc_judgment (C : Cx G n E R_law cL_law 4) (X : SX G E b L xs) (HR : RM E 16 648) (hL : L ≤ 3584) (ht : 7 * t + 7 ≤ L) (h512 : t < 512) (hS : SOK S) (hI : InvC t S M) (hJ : InvR S M) (k : ∀ M1 S1 : Mem, SOK S1 → InvC (t + 1) S1 M1 → InvR S1 M1 → WW G n E 4 Q 1422 (LV G b t) [] M1) : WW G n E 4 Q 976 (LV G b t) [] M := by
  refine w_aload_n C 1 dL_law_976 rfl rfl ?_
  refine w_arg C X hL ht (a := 1) (by decide) (by decide) dL_law_977 dL_law_978 dL_law_979 dL_law_980 dL_law_981 ?_
  refine w_arg C X hL ht (a := 2) (by decide) (by decide) dL_law_982 dL_law_983 dL_law_984 dL_law_985 dL_law_986 ?_
  refine back_I (run_V C HR ml_X9_judgment (ci := 9) rfl (by decide) (Nat.le_of_ble_eq_true rfl) gl903 gl904 gl902 (by decide) rfl (Nat.le_of_ble_eq_true rfl) dL_law_987 (As := [.int (xs (7 * t + 1)), .int (xs (7 * t + 2))]) rfl (c_X9_judgment _ _ _ _ (C_judgment hS hI (xs (7 * t + 1)) (xs (7 * t + 2)) (Q := fun r M1 => r = a_judgment S (xs (7 * t + 1)) (xs (7 * t + 2)) ∧ InvC (t + 1) (n_judgment S (xs (7 * t + 1)) (xs (7 * t + 2))) M1 ∧ FrC M M1) (fun M1 h1 f1 => ⟨rfl, h1, f1⟩)))) (fun r0 M1 hw => ?_)
  obtain ⟨rfl, h1, f1⟩ := hw
  refine w_aload_n C 2 dL_law_990 rfl rfl ?_
  refine w_arg C X hL ht (a := 1) (by decide) (by decide) dL_law_991 dL_law_992 dL_law_993 dL_law_994 dL_law_995 ?_
  refine w_arg C X hL ht (a := 2) (by decide) (by decide) dL_law_996 dL_law_997 dL_law_998 dL_law_999 dL_law_1000 ?_
  refine back_I (run_V C HR ml_X10_judgment (ci := 10) rfl (by decide) (Nat.le_of_ble_eq_true rfl) gl1416 gl1417 gl1415 (by decide) rfl (Nat.le_of_ble_eq_true rfl) dL_law_1001 (As := [.int (xs (7 * t + 1)), .int (xs (7 * t + 2))]) rfl (c_X10_judgment _ _ _ _ (R_judgment hS (hJ.frC f1) (xs (7 * t + 1)) (xs (7 * t + 2)) (Q := fun r M2 => r = a_judgment S (xs (7 * t + 1)) (xs (7 * t + 2)) ∧ InvR (n_judgment S (xs (7 * t + 1)) (xs (7 * t + 2))) M2 ∧ FrR M1 M2) (fun M2 h2 f2 => ⟨rfl, h2, f2⟩)))) (fun r1 M2 hw => ?_)
  obtain ⟨rfl, h2, f2⟩ := hw
  refine w_icmp_eq C dL_law_1004 (tgt := 1422) rfl (fun _ => ?_) (fun h => absurd rfl h)
  exact k _ _ (S_judgment hS (xs (7 * t + 1)) (xs (7 * t + 2))) (h1.frR f2) h2
theorem lc_ground (C : Cx G n E R_law cL_law 4) (X : SX G E b L xs) (HR : RM E 16 648) (hL : L ≤ 3584) (ht : 7 * t + 7 ≤ L) (h512 : t < 512) (hS : SOK S) (hI : InvC t S M) (hJ : InvR S M) (k : ∀ M1 S1 : Mem, SOK S1 → InvC (t + 1) S1 M1 → InvR S1 M1 → WW G n E 4 Q 1422 (LV G b t) [] M1) : WW G n E 4 Q 1009 (LV G b t) [] M := by
  by_cases hz : xs (7 * t + 2) = 0
  · refine w_aload_n C 1 dL_law_1009 rfl rfl ?_
    refine w_arg C X hL ht (a := 1) (by decide) (by decide) dL_law_1010 dL_law_1011 dL_law_1012 dL_law_1013 dL_law_1014 ?_
    refine w_arg C X hL ht (a := 2) (by decide) (by decide) dL_law_1015 dL_law_1016 dL_law_1017 dL_law_1018 dL_law_1019 ?_
    refine w_if_eq C dL_law_1020 (tgt := 1027) rfl (fun _ => ?_) (fun h => absurd hz h)
    refine w_iconst C dL_law_1027 kc_i_0 ?_
    refine back_I (run_V C HR ml_X9_ground (ci := 9) rfl (by decide) (Nat.le_of_ble_eq_true rfl) gl912 gl913 gl911 (by decide) rfl (Nat.le_of_ble_eq_true rfl) dL_law_1028 (As := [.int (xs (7 * t + 1)), .int 0]) rfl (c_X9_ground _ _ _ _ (C_ground hI (xs (7 * t + 1)) 0 (Q := fun r M1 => r = a_ground S (xs (7 * t + 1)) 0 ∧ InvC (t + 1) (n_ground S (xs (7 * t + 1)) 0) M1 ∧ FrC M M1) (fun M1 h1 f1 => ⟨rfl, h1, f1⟩)))) (fun r0 M1 hw => ?_)
    obtain ⟨rfl, h1, f1⟩ := hw
    refine w_aload_n C 2 dL_law_1031 rfl rfl ?_
    refine w_arg C X hL ht (a := 1) (by decide) (by decide) dL_law_1032 dL_law_1033 dL_law_1034 dL_law_1035 dL_law_1036 ?_
    refine w_arg C X hL ht (a := 2) (by decide) (by decide) dL_law_1037 dL_law_1038 dL_law_1039 dL_law_1040 dL_law_1041 ?_
    refine w_if_eq C dL_law_1042 (tgt := 1049) rfl (fun _ => ?_) (fun h => absurd hz h)
    refine w_iconst C dL_law_1049 kc_i_0 ?_
    refine back_I (run_V C HR ml_X10_ground (ci := 10) rfl (by decide) (Nat.le_of_ble_eq_true rfl) gl1421 gl1422 gl1420 (by decide) rfl (Nat.le_of_ble_eq_true rfl) dL_law_1050 (As := [.int (xs (7 * t + 1)), .int 0]) rfl (c_X10_ground _ _ _ _ (R_ground hS (hJ.frC f1) (xs (7 * t + 1)) 0 (Or.inl rfl) (Q := fun r M2 => r = a_ground S (xs (7 * t + 1)) 0 ∧ InvR (n_ground S (xs (7 * t + 1)) 0) M2 ∧ FrR M1 M2) (fun M2 h2 f2 => ⟨rfl, h2, f2⟩)))) (fun r1 M2 hw => ?_)
    obtain ⟨rfl, h2, f2⟩ := hw
    refine w_icmp_eq C dL_law_1053 (tgt := 1422) rfl (fun _ => ?_) (fun h => absurd rfl h)
    exact k _ _ (S_ground hS (xs (7 * t + 1)) 0) (h1.frR f2) h2
  · refine w_aload_n C 1 dL_law_1009 rfl rfl ?_
    refine w_arg C X hL ht (a := 1) (by decide) (by decide) dL_law_1010 dL_law_1011 dL_law_1012 dL_law_1013 dL_law_1014 ?_
    refine w_arg C X hL ht (a := 2) (by decide) (by decide) dL_law_1015 dL_law_1016 dL_law_1017 dL_law_1018 dL_law_1019 ?_
    refine w_if_eq C dL_law_1020 (tgt := 1027) rfl (fun h => absurd h hz) (fun _ => ?_)
    refine w_iconst C dL_law_1023 kc_i_1 ?_
    refine w_goto C dL_law_1024 (tgt := 1028) rfl ?_
    refine back_I (run_V C HR ml_X9_ground (ci := 9) rfl (by decide) (Nat.le_of_ble_eq_true rfl) gl912 gl913 gl911 (by decide) rfl (Nat.le_of_ble_eq_true rfl) dL_law_1028 (As := [.int (xs (7 * t + 1)), .int 1]) rfl (c_X9_ground _ _ _ _ (C_ground hI (xs (7 * t + 1)) 1 (Q := fun r M1 => r = a_ground S (xs (7 * t + 1)) 1 ∧ InvC (t + 1) (n_ground S (xs (7 * t + 1)) 1) M1 ∧ FrC M M1) (fun M1 h1 f1 => ⟨rfl, h1, f1⟩)))) (fun r0 M1 hw => ?_)
    obtain ⟨rfl, h1, f1⟩ := hw
    refine w_aload_n C 2 dL_law_1031 rfl rfl ?_
    refine w_arg C X hL ht (a := 1) (by decide) (by decide) dL_law_1032 dL_law_1033 dL_law_1034 dL_law_1035 dL_law_1036 ?_
    refine w_arg C X hL ht (a := 2) (by decide) (by decide) dL_law_1037 dL_law_1038 dL_law_1039 dL_law_1040 dL_law_1041 ?_
    refine w_if_eq C dL_law_1042 (tgt := 1049) rfl (fun h => absurd h hz) (fun _ => ?_)
    refine w_iconst C dL_law_1045 kc_i_1 ?_
    refine w_goto C dL_law_1046 (tgt := 1050) rfl ?_
    refine back_I (run_V C HR ml_X10_ground (ci := 10) rfl (by decide) (Nat.le_of_ble_eq_true rfl) gl1421 gl1422 gl1420 (by decide) rfl (Nat.le_of_ble_eq_true rfl) dL_law_1050 (As := [.int (xs (7 * t + 1)), .int 1]) rfl (c_X10_ground _ _ _ _ (R_ground hS (hJ.frC f1) (xs (7 * t + 1)) 1 (Or.inr rfl) (Q := fun r M2 => r = a_ground S (xs (7 * t + 1)) 1 ∧ InvR (n_ground S (xs (7 * t + 1)) 1) M2 ∧ FrR M1 M2) (fun M2 h2 f2 => ⟨rfl, h2, f2⟩)))) (fun r1 M2 hw => ?_)
    obtain ⟨rfl, h2, f2⟩ := hw
    refine w_icmp_eq C dL_law_1053 (tgt := 1422) rfl (fun _ => ?_) (fun h => absurd rfl h)
    exact k _ _ (S_ground hS (xs (7 * t + 1)) 1) (h1.frR f2) h2
theorem lc_standing (C : Cx G n E R_law cL_law 4) (X : SX G E b L xs) (HR : RM E 16 648) (hL : L ≤ 3584) (ht : 7 * t + 7 ≤ L) (h512 : t < 512) (hS : SOK S) (hI : InvC t S M) (hJ : InvR S M) (k : ∀ M1 S1 : Mem, SOK S1 → InvC (t + 1) S1 M1 → InvR S1 M1 → WW G n E 4 Q 1422 (LV G b t) [] M1) : WW G n E 4 Q 1058 (LV G b t) [] M := by
  refine w_aload_n C 1 dL_law_1058 rfl rfl ?_
  refine back_I (run_V C HR ml_X9_standing (ci := 9) rfl (by decide) (Nat.le_of_ble_eq_true rfl) gl916 gl917 gl915 (by decide) rfl (Nat.le_of_ble_eq_true rfl) dL_law_1059 (As := []) rfl (c_X9_standing  _ _ (C_standing hS hI  (Q := fun r M1 => r = a_standing S ∧ M1 = M) ⟨rfl, rfl⟩))) (fun r0 M1 hw => ?_)
  obtain ⟨rfl, rfl⟩ := hw
  refine w_aload_n C 2 dL_law_1062 rfl rfl ?_
  refine back_I (run_V C HR ml_X10_standing (ci := 10) rfl (by decide) (Nat.le_of_ble_eq_true rfl) gl1425 gl1426 gl1424 (by decide) rfl (Nat.le_of_ble_eq_true rfl) dL_law_1063 (As := []) rfl (c_X10_standing  _ _ (R_standing hS hJ  (Q := fun r M2 => r = a_standing S ∧ M2 = M1) ⟨rfl, rfl⟩))) (fun r1 M2 hw => ?_)
  obtain ⟨rfl, rfl⟩ := hw
  refine w_icmp_eq C dL_law_1066 (tgt := 1422) rfl (fun _ => ?_) (fun h => absurd rfl h)
  exact k _ _ hS hI.more hJ
theorem lc_falling (C : Cx G n E R_law cL_law 4) (X : SX G E b L xs) (HR : RM E 16 648) (hL : L ≤ 3584) (ht : 7 * t + 7 ≤ L) (h512 : t < 512) (hS : SOK S) (hI : InvC t S M) (hJ : InvR S M) (k : ∀ M1 S1 : Mem, SOK S1 → InvC (t + 1) S1 M1 → InvR S1 M1 → WW G n E 4 Q 1422 (LV G b t) [] M1) : WW G n E 4 Q 1071 (LV G b t) [] M := by
  refine w_aload_n C 1 dL_law_1071 rfl rfl ?_
  refine w_arg C X hL ht (a := 1) (by decide) (by decide) dL_law_1072 dL_law_1073 dL_law_1074 dL_law_1075 dL_law_1076 ?_
  refine back_I (run_V C HR ml_X9_falling (ci := 9) rfl (by decide) (Nat.le_of_ble_eq_true rfl) gl924 gl925 gl923 (by decide) rfl (Nat.le_of_ble_eq_true rfl) dL_law_1077 (As := [.int (xs (7 * t + 1))]) rfl (c_X9_falling _ _ _ (C_falling hS hI (xs (7 * t + 1)) (Q := fun r M1 => r = a_falling S (xs (7 * t + 1)) ∧ M1 = M) ⟨rfl, rfl⟩))) (fun r0 M1 hw => ?_)
  obtain ⟨rfl, rfl⟩ := hw
  refine w_aload_n C 2 dL_law_1080 rfl rfl ?_
  refine w_arg C X hL ht (a := 1) (by decide) (by decide) dL_law_1081 dL_law_1082 dL_law_1083 dL_law_1084 dL_law_1085 ?_
  refine back_I (run_V C HR ml_X10_falling (ci := 10) rfl (by decide) (Nat.le_of_ble_eq_true rfl) gl1433 gl1434 gl1432 (by decide) rfl (Nat.le_of_ble_eq_true rfl) dL_law_1086 (As := [.int (xs (7 * t + 1))]) rfl (c_X10_falling _ _ _ (R_falling hS hJ (xs (7 * t + 1)) (Q := fun r M2 => r = a_falling S (xs (7 * t + 1)) ∧ M2 = M1) ⟨rfl, rfl⟩))) (fun r1 M2 hw => ?_)
  obtain ⟨rfl, rfl⟩ := hw
  refine w_icmp_eq C dL_law_1089 (tgt := 1422) rfl (fun _ => ?_) (fun h => absurd rfl h)
  exact k _ _ hS hI.more hJ
theorem lc_order (C : Cx G n E R_law cL_law 4) (X : SX G E b L xs) (HR : RM E 16 648) (hL : L ≤ 3584) (ht : 7 * t + 7 ≤ L) (h512 : t < 512) (hS : SOK S) (hI : InvC t S M) (hJ : InvR S M) (k : ∀ M1 S1 : Mem, SOK S1 → InvC (t + 1) S1 M1 → InvR S1 M1 → WW G n E 4 Q 1422 (LV G b t) [] M1) : WW G n E 4 Q 1094 (LV G b t) [] M := by
  refine w_aload_n C 1 dL_law_1094 rfl rfl ?_
  refine w_arg C X hL ht (a := 1) (by decide) (by decide) dL_law_1095 dL_law_1096 dL_law_1097 dL_law_1098 dL_law_1099 ?_
  refine w_arg C X hL ht (a := 2) (by decide) (by decide) dL_law_1100 dL_law_1101 dL_law_1102 dL_law_1103 dL_law_1104 ?_
  refine back_I (run_V C HR ml_X9_order (ci := 9) rfl (by decide) (Nat.le_of_ble_eq_true rfl) gl928 gl929 gl927 (by decide) rfl (Nat.le_of_ble_eq_true rfl) dL_law_1105 (As := [.int (xs (7 * t + 1)), .int (xs (7 * t + 2))]) rfl (c_X9_order _ _ _ _ (C_order hS hI (xs (7 * t + 1)) (xs (7 * t + 2)) (Q := fun r M1 => r = a_order S (xs (7 * t + 1)) (xs (7 * t + 2)) ∧ InvC (t + 1) S M1 ∧ FrC M M1) (fun M1 h1 f1 => ⟨rfl, h1, f1⟩)))) (fun r0 M1 hw => ?_)
  obtain ⟨rfl, h1, f1⟩ := hw
  refine w_aload_n C 2 dL_law_1108 rfl rfl ?_
  refine w_arg C X hL ht (a := 1) (by decide) (by decide) dL_law_1109 dL_law_1110 dL_law_1111 dL_law_1112 dL_law_1113 ?_
  refine w_arg C X hL ht (a := 2) (by decide) (by decide) dL_law_1114 dL_law_1115 dL_law_1116 dL_law_1117 dL_law_1118 ?_
  refine back_I (run_V C HR ml_X10_order (ci := 10) rfl (by decide) (Nat.le_of_ble_eq_true rfl) gl1437 gl1438 gl1436 (by decide) rfl (Nat.le_of_ble_eq_true rfl) dL_law_1119 (As := [.int (xs (7 * t + 1)), .int (xs (7 * t + 2))]) rfl (c_X10_order _ _ _ _ (R_order hS (hJ.frC f1) (xs (7 * t + 1)) (xs (7 * t + 2)) (Q := fun r M2 => r = a_order S (xs (7 * t + 1)) (xs (7 * t + 2)) ∧ InvR S M2 ∧ FrR M1 M2) (fun M2 h2 f2 => ⟨rfl, h2, f2⟩)))) (fun r1 M2 hw => ?_)
  obtain ⟨rfl, h2, f2⟩ := hw
  refine w_icmp_eq C dL_law_1122 (tgt := 1422) rfl (fun _ => ?_) (fun h => absurd rfl h)
  exact k _ _ hS (h1.frR f2) h2
theorem lc_sheet (C : Cx G n E R_law cL_law 4) (X : SX G E b L xs) (HR : RM E 16 648) (hL : L ≤ 3584) (ht : 7 * t + 7 ≤ L) (h512 : t < 512) (hS : SOK S) (hI : InvC t S M) (hJ : InvR S M) (k : ∀ M1 S1 : Mem, SOK S1 → InvC (t + 1) S1 M1 → InvR S1 M1 → WW G n E 4 Q 1422 (LV G b t) [] M1) : WW G n E 4 Q 1127 (LV G b t) [] M := by
  refine w_aload_n C 1 dL_law_1127 rfl rfl ?_
  refine w_arg C X hL ht (a := 1) (by decide) (by decide) dL_law_1128 dL_law_1129 dL_law_1130 dL_law_1131 dL_law_1132 ?_
  refine w_arg C X hL ht (a := 2) (by decide) (by decide) dL_law_1133 dL_law_1134 dL_law_1135 dL_law_1136 dL_law_1137 ?_
  refine w_arg C X hL ht (a := 3) (by decide) (by decide) dL_law_1138 dL_law_1139 dL_law_1140 dL_law_1141 dL_law_1142 ?_
  refine back_I (run_V C HR ml_X9_sheet (ci := 9) rfl (by decide) (Nat.le_of_ble_eq_true rfl) gl944 gl945 gl943 (by decide) rfl (Nat.le_of_ble_eq_true rfl) dL_law_1143 (As := [.int (xs (7 * t + 1)), .int (xs (7 * t + 2)), .int (xs (7 * t + 3))]) rfl (c_X9_sheet _ _ _ _ _ (C_sheet hI (xs (7 * t + 1)) (xs (7 * t + 2)) (xs (7 * t + 3)) (Q := fun r M1 => r = a_sheet (xs (7 * t + 1)) (xs (7 * t + 2)) (xs (7 * t + 3)) ∧ InvC (t + 1) (n_sheet S (xs (7 * t + 1)) (xs (7 * t + 2)) (xs (7 * t + 3))) M1 ∧ FrC M M1) (fun M1 h1 f1 => ⟨rfl, h1, f1⟩)))) (fun r0 M1 hw => ?_)
  obtain ⟨rfl, h1, f1⟩ := hw
  refine w_aload_n C 2 dL_law_1146 rfl rfl ?_
  refine w_arg C X hL ht (a := 1) (by decide) (by decide) dL_law_1147 dL_law_1148 dL_law_1149 dL_law_1150 dL_law_1151 ?_
  refine w_arg C X hL ht (a := 2) (by decide) (by decide) dL_law_1152 dL_law_1153 dL_law_1154 dL_law_1155 dL_law_1156 ?_
  refine w_arg C X hL ht (a := 3) (by decide) (by decide) dL_law_1157 dL_law_1158 dL_law_1159 dL_law_1160 dL_law_1161 ?_
  refine back_I (run_V C HR ml_X10_sheet (ci := 10) rfl (by decide) (Nat.le_of_ble_eq_true rfl) gl1449 gl1450 gl1448 (by decide) rfl (Nat.le_of_ble_eq_true rfl) dL_law_1162 (As := [.int (xs (7 * t + 1)), .int (xs (7 * t + 2)), .int (xs (7 * t + 3))]) rfl (c_X10_sheet _ _ _ _ _ (R_sheet (hJ.frC f1) (xs (7 * t + 1)) (xs (7 * t + 2)) (xs (7 * t + 3)) (Q := fun r M2 => r = a_sheet (xs (7 * t + 1)) (xs (7 * t + 2)) (xs (7 * t + 3)) ∧ InvR (n_sheet S (xs (7 * t + 1)) (xs (7 * t + 2)) (xs (7 * t + 3))) M2 ∧ FrR M1 M2) (fun M2 h2 f2 => ⟨rfl, h2, f2⟩)))) (fun r1 M2 hw => ?_)
  obtain ⟨rfl, h2, f2⟩ := hw
  refine w_icmp_eq C dL_law_1165 (tgt := 1422) rfl (fun _ => ?_) (fun h => absurd rfl h)
  exact k _ _ (S_sheet hS (xs (7 * t + 1)) (xs (7 * t + 2)) (xs (7 * t + 3))) (h1.frR f2) h2
theorem lc_lose (C : Cx G n E R_law cL_law 4) (X : SX G E b L xs) (HR : RM E 16 648) (hL : L ≤ 3584) (ht : 7 * t + 7 ≤ L) (h512 : t < 512) (hS : SOK S) (hI : InvC t S M) (hJ : InvR S M) (k : ∀ M1 S1 : Mem, SOK S1 → InvC (t + 1) S1 M1 → InvR S1 M1 → WW G n E 4 Q 1422 (LV G b t) [] M1) : WW G n E 4 Q 1170 (LV G b t) [] M := by
  refine w_aload_n C 1 dL_law_1170 rfl rfl ?_
  refine w_arg C X hL ht (a := 1) (by decide) (by decide) dL_law_1171 dL_law_1172 dL_law_1173 dL_law_1174 dL_law_1175 ?_
  refine back_I (run_V C HR ml_X9_lose (ci := 9) rfl (by decide) (Nat.le_of_ble_eq_true rfl) gl957 gl958 gl956 (by decide) rfl (Nat.le_of_ble_eq_true rfl) dL_law_1176 (As := [.int (xs (7 * t + 1))]) rfl (c_X9_lose _ _ _ (C_lose hI (xs (7 * t + 1)) (Q := fun r M1 => r = a_lose S (xs (7 * t + 1)) ∧ InvC (t + 1) (n_lose S (xs (7 * t + 1))) M1 ∧ FrC M M1) (fun M1 h1 f1 => ⟨rfl, h1, f1⟩)))) (fun r0 M1 hw => ?_)
  obtain ⟨rfl, h1, f1⟩ := hw
  refine w_aload_n C 2 dL_law_1179 rfl rfl ?_
  refine w_arg C X hL ht (a := 1) (by decide) (by decide) dL_law_1180 dL_law_1181 dL_law_1182 dL_law_1183 dL_law_1184 ?_
  refine back_I (run_V C HR ml_X10_lose (ci := 10) rfl (by decide) (Nat.le_of_ble_eq_true rfl) gl1453 gl1454 gl1452 (by decide) rfl (Nat.le_of_ble_eq_true rfl) dL_law_1185 (As := [.int (xs (7 * t + 1))]) rfl (c_X10_lose _ _ _ (R_lose hS (hJ.frC f1) (xs (7 * t + 1)) (Q := fun r M2 => r = a_lose S (xs (7 * t + 1)) ∧ InvR (n_lose S (xs (7 * t + 1))) M2 ∧ FrR M1 M2) (fun M2 h2 f2 => ⟨rfl, h2, f2⟩)))) (fun r1 M2 hw => ?_)
  obtain ⟨rfl, h2, f2⟩ := hw
  refine w_icmp_eq C dL_law_1188 (tgt := 1422) rfl (fun _ => ?_) (fun h => absurd rfl h)
  exact k _ _ (S_lose hS (xs (7 * t + 1))) (h1.frR f2) h2
theorem lc_put (C : Cx G n E R_law cL_law 4) (X : SX G E b L xs) (HR : RM E 16 648) (hL : L ≤ 3584) (ht : 7 * t + 7 ≤ L) (h512 : t < 512) (hS : SOK S) (hI : InvC t S M) (hJ : InvR S M) (k : ∀ M1 S1 : Mem, SOK S1 → InvC (t + 1) S1 M1 → InvR S1 M1 → WW G n E 4 Q 1422 (LV G b t) [] M1) : WW G n E 4 Q 1193 (LV G b t) [] M := by
  refine w_aload_n C 1 dL_law_1193 rfl rfl ?_
  refine w_arg C X hL ht (a := 1) (by decide) (by decide) dL_law_1194 dL_law_1195 dL_law_1196 dL_law_1197 dL_law_1198 ?_
  refine w_arg C X hL ht (a := 2) (by decide) (by decide) dL_law_1199 dL_law_1200 dL_law_1201 dL_law_1202 dL_law_1203 ?_
  refine w_arg C X hL ht (a := 3) (by decide) (by decide) dL_law_1204 dL_law_1205 dL_law_1206 dL_law_1207 dL_law_1208 ?_
  refine w_arg C X hL ht (a := 4) (by decide) (by decide) dL_law_1209 dL_law_1210 dL_law_1211 dL_law_1212 dL_law_1213 ?_
  refine back_I (run_V C HR ml_X9_put (ci := 9) rfl (by decide) (Nat.le_of_ble_eq_true rfl) gl961 gl962 gl960 (by decide) rfl (Nat.le_of_ble_eq_true rfl) dL_law_1214 (As := [.int (xs (7 * t + 1)), .int (xs (7 * t + 2)), .int (xs (7 * t + 3)), .int (xs (7 * t + 4))]) rfl (c_X9_put _ _ _ _ _ _ (C_put hS hI (xs (7 * t + 1)) (xs (7 * t + 2)) (xs (7 * t + 3)) (xs (7 * t + 4)) (Q := fun r M1 => r = a_put S (xs (7 * t + 1)) (xs (7 * t + 2)) (xs (7 * t + 3)) ∧ InvC (t + 1) (n_put S (xs (7 * t + 1)) (xs (7 * t + 2)) (xs (7 * t + 3)) (xs (7 * t + 4))) M1 ∧ FrC M M1) (fun M1 h1 f1 => ⟨rfl, h1, f1⟩)))) (fun r0 M1 hw => ?_)
  obtain ⟨rfl, h1, f1⟩ := hw
  refine w_aload_n C 2 dL_law_1217 rfl rfl ?_
  refine w_arg C X hL ht (a := 1) (by decide) (by decide) dL_law_1218 dL_law_1219 dL_law_1220 dL_law_1221 dL_law_1222 ?_
  refine w_arg C X hL ht (a := 2) (by decide) (by decide) dL_law_1223 dL_law_1224 dL_law_1225 dL_law_1226 dL_law_1227 ?_
  refine w_arg C X hL ht (a := 3) (by decide) (by decide) dL_law_1228 dL_law_1229 dL_law_1230 dL_law_1231 dL_law_1232 ?_
  refine w_arg C X hL ht (a := 4) (by decide) (by decide) dL_law_1233 dL_law_1234 dL_law_1235 dL_law_1236 dL_law_1237 ?_
  refine back_I (run_V C HR ml_X10_put (ci := 10) rfl (by decide) (Nat.le_of_ble_eq_true rfl) gl1457 gl1458 gl1456 (by decide) rfl (Nat.le_of_ble_eq_true rfl) dL_law_1238 (As := [.int (xs (7 * t + 1)), .int (xs (7 * t + 2)), .int (xs (7 * t + 3)), .int (xs (7 * t + 4))]) rfl (c_X10_put _ _ _ _ _ _ (R_put hS (hJ.frC f1) (xs (7 * t + 1)) (xs (7 * t + 2)) (xs (7 * t + 3)) (xs (7 * t + 4)) (Q := fun r M2 => r = a_put S (xs (7 * t + 1)) (xs (7 * t + 2)) (xs (7 * t + 3)) ∧ InvR (n_put S (xs (7 * t + 1)) (xs (7 * t + 2)) (xs (7 * t + 3)) (xs (7 * t + 4))) M2 ∧ FrR M1 M2) (fun M2 h2 f2 => ⟨rfl, h2, f2⟩)))) (fun r1 M2 hw => ?_)
  obtain ⟨rfl, h2, f2⟩ := hw
  refine w_icmp_eq C dL_law_1241 (tgt := 1422) rfl (fun _ => ?_) (fun h => absurd rfl h)
  exact k _ _ (S_put hS (xs (7 * t + 1)) (xs (7 * t + 2)) (xs (7 * t + 3)) (xs (7 * t + 4))) (h1.frR f2) h2
theorem lc_get (C : Cx G n E R_law cL_law 4) (X : SX G E b L xs) (HR : RM E 16 648) (hL : L ≤ 3584) (ht : 7 * t + 7 ≤ L) (h512 : t < 512) (hS : SOK S) (hI : InvC t S M) (hJ : InvR S M) (k : ∀ M1 S1 : Mem, SOK S1 → InvC (t + 1) S1 M1 → InvR S1 M1 → WW G n E 4 Q 1422 (LV G b t) [] M1) : WW G n E 4 Q 1246 (LV G b t) [] M := by
  refine w_aload_n C 1 dL_law_1246 rfl rfl ?_
  refine w_arg C X hL ht (a := 1) (by decide) (by decide) dL_law_1247 dL_law_1248 dL_law_1249 dL_law_1250 dL_law_1251 ?_
  refine w_arg C X hL ht (a := 2) (by decide) (by decide) dL_law_1252 dL_law_1253 dL_law_1254 dL_law_1255 dL_law_1256 ?_
  refine w_arg C X hL ht (a := 3) (by decide) (by decide) dL_law_1257 dL_law_1258 dL_law_1259 dL_law_1260 dL_law_1261 ?_
  refine back_I (run_V C HR ml_X9_get (ci := 9) rfl (by decide) (Nat.le_of_ble_eq_true rfl) gl973 gl974 gl972 (by decide) rfl (Nat.le_of_ble_eq_true rfl) dL_law_1262 (As := [.int (xs (7 * t + 1)), .int (xs (7 * t + 2)), .int (xs (7 * t + 3))]) rfl (c_X9_get _ _ _ _ _ (C_get hS hI (xs (7 * t + 1)) (xs (7 * t + 2)) (xs (7 * t + 3)) (Q := fun r M1 => r = a_get S (xs (7 * t + 1)) (xs (7 * t + 2)) (xs (7 * t + 3)) ∧ InvC (t + 1) (n_get S (xs (7 * t + 1)) (xs (7 * t + 2)) (xs (7 * t + 3))) M1 ∧ FrC M M1) (fun M1 h1 f1 => ⟨rfl, h1, f1⟩)))) (fun r0 M1 hw => ?_)
  obtain ⟨rfl, h1, f1⟩ := hw
  refine w_aload_n C 2 dL_law_1265 rfl rfl ?_
  refine w_arg C X hL ht (a := 1) (by decide) (by decide) dL_law_1266 dL_law_1267 dL_law_1268 dL_law_1269 dL_law_1270 ?_
  refine w_arg C X hL ht (a := 2) (by decide) (by decide) dL_law_1271 dL_law_1272 dL_law_1273 dL_law_1274 dL_law_1275 ?_
  refine w_arg C X hL ht (a := 3) (by decide) (by decide) dL_law_1276 dL_law_1277 dL_law_1278 dL_law_1279 dL_law_1280 ?_
  refine back_I (run_V C HR ml_X10_get (ci := 10) rfl (by decide) (Nat.le_of_ble_eq_true rfl) gl1469 gl1470 gl1468 (by decide) rfl (Nat.le_of_ble_eq_true rfl) dL_law_1281 (As := [.int (xs (7 * t + 1)), .int (xs (7 * t + 2)), .int (xs (7 * t + 3))]) rfl (c_X10_get _ _ _ _ _ (R_get hS (hJ.frC f1) (xs (7 * t + 1)) (xs (7 * t + 2)) (xs (7 * t + 3)) (Q := fun r M2 => r = a_get S (xs (7 * t + 1)) (xs (7 * t + 2)) (xs (7 * t + 3)) ∧ InvR (n_get S (xs (7 * t + 1)) (xs (7 * t + 2)) (xs (7 * t + 3))) M2 ∧ FrR M1 M2) (fun M2 h2 f2 => ⟨rfl, h2, f2⟩)))) (fun r1 M2 hw => ?_)
  obtain ⟨rfl, h2, f2⟩ := hw
  refine w_icmp_eq C dL_law_1284 (tgt := 1422) rfl (fun _ => ?_) (fun h => absurd rfl h)
  exact k _ _ (S_get hS (xs (7 * t + 1)) (xs (7 * t + 2)) (xs (7 * t + 3))) (h1.frR f2) h2
theorem lc_copy (C : Cx G n E R_law cL_law 4) (X : SX G E b L xs) (HR : RM E 16 648) (hL : L ≤ 3584) (ht : 7 * t + 7 ≤ L) (h512 : t < 512) (hS : SOK S) (hI : InvC t S M) (hJ : InvR S M) (k : ∀ M1 S1 : Mem, SOK S1 → InvC (t + 1) S1 M1 → InvR S1 M1 → WW G n E 4 Q 1422 (LV G b t) [] M1) : WW G n E 4 Q 1289 (LV G b t) [] M := by
  refine w_aload_n C 1 dL_law_1289 rfl rfl ?_
  refine w_arg C X hL ht (a := 1) (by decide) (by decide) dL_law_1290 dL_law_1291 dL_law_1292 dL_law_1293 dL_law_1294 ?_
  refine w_arg C X hL ht (a := 2) (by decide) (by decide) dL_law_1295 dL_law_1296 dL_law_1297 dL_law_1298 dL_law_1299 ?_
  refine w_arg C X hL ht (a := 3) (by decide) (by decide) dL_law_1300 dL_law_1301 dL_law_1302 dL_law_1303 dL_law_1304 ?_
  refine w_arg C X hL ht (a := 4) (by decide) (by decide) dL_law_1305 dL_law_1306 dL_law_1307 dL_law_1308 dL_law_1309 ?_
  refine w_arg C X hL ht (a := 5) (by decide) (by decide) dL_law_1310 dL_law_1311 dL_law_1312 dL_law_1313 dL_law_1314 ?_
  refine back_I (run_V C HR ml_X9_copy (ci := 9) rfl (by decide) (Nat.le_of_ble_eq_true rfl) gl978 gl979 gl977 (by decide) rfl (Nat.le_of_ble_eq_true rfl) dL_law_1315 (As := [.int (xs (7 * t + 1)), .int (xs (7 * t + 2)), .int (xs (7 * t + 3)), .int (xs (7 * t + 4)), .int (xs (7 * t + 5))]) rfl (c_X9_copy _ _ _ _ _ _ _ (C_copy hS hI (xs (7 * t + 1)) (xs (7 * t + 2)) (xs (7 * t + 3)) (xs (7 * t + 4)) (xs (7 * t + 5)) (Q := fun r M1 => r = a_copy S (xs (7 * t + 1)) (xs (7 * t + 2)) (xs (7 * t + 3)) (xs (7 * t + 4)) (xs (7 * t + 5)) ∧ InvC (t + 1) (n_copy S (xs (7 * t + 1)) (xs (7 * t + 2)) (xs (7 * t + 3)) (xs (7 * t + 4)) (xs (7 * t + 5))) M1 ∧ FrC M M1) (fun M1 h1 f1 => ⟨rfl, h1, f1⟩)))) (fun r0 M1 hw => ?_)
  obtain ⟨rfl, h1, f1⟩ := hw
  refine w_aload_n C 2 dL_law_1318 rfl rfl ?_
  refine w_arg C X hL ht (a := 1) (by decide) (by decide) dL_law_1319 dL_law_1320 dL_law_1321 dL_law_1322 dL_law_1323 ?_
  refine w_arg C X hL ht (a := 2) (by decide) (by decide) dL_law_1324 dL_law_1325 dL_law_1326 dL_law_1327 dL_law_1328 ?_
  refine w_arg C X hL ht (a := 3) (by decide) (by decide) dL_law_1329 dL_law_1330 dL_law_1331 dL_law_1332 dL_law_1333 ?_
  refine w_arg C X hL ht (a := 4) (by decide) (by decide) dL_law_1334 dL_law_1335 dL_law_1336 dL_law_1337 dL_law_1338 ?_
  refine w_arg C X hL ht (a := 5) (by decide) (by decide) dL_law_1339 dL_law_1340 dL_law_1341 dL_law_1342 dL_law_1343 ?_
  refine back_I (run_V C HR ml_X10_copy (ci := 10) rfl (by decide) (Nat.le_of_ble_eq_true rfl) gl1474 gl1475 gl1473 (by decide) rfl (Nat.le_of_ble_eq_true rfl) dL_law_1344 (As := [.int (xs (7 * t + 1)), .int (xs (7 * t + 2)), .int (xs (7 * t + 3)), .int (xs (7 * t + 4)), .int (xs (7 * t + 5))]) rfl (c_X10_copy _ _ _ _ _ _ _ (R_copy hS (hJ.frC f1) (xs (7 * t + 1)) (xs (7 * t + 2)) (xs (7 * t + 3)) (xs (7 * t + 4)) (xs (7 * t + 5)) (Q := fun r M2 => r = a_copy S (xs (7 * t + 1)) (xs (7 * t + 2)) (xs (7 * t + 3)) (xs (7 * t + 4)) (xs (7 * t + 5)) ∧ InvR (n_copy S (xs (7 * t + 1)) (xs (7 * t + 2)) (xs (7 * t + 3)) (xs (7 * t + 4)) (xs (7 * t + 5))) M2 ∧ FrR M1 M2) (fun M2 h2 f2 => ⟨rfl, h2, f2⟩)))) (fun r1 M2 hw => ?_)
  obtain ⟨rfl, h2, f2⟩ := hw
  refine w_icmp_eq C dL_law_1347 (tgt := 1422) rfl (fun _ => ?_) (fun h => absurd rfl h)
  exact k _ _ (S_copy hS (xs (7 * t + 1)) (xs (7 * t + 2)) (xs (7 * t + 3)) (xs (7 * t + 4)) (xs (7 * t + 5))) (h1.frR f2) h2
theorem lc_write (C : Cx G n E R_law cL_law 4) (X : SX G E b L xs) (HR : RM E 16 648) (hL : L ≤ 3584) (ht : 7 * t + 7 ≤ L) (h512 : t < 512) (hS : SOK S) (hI : InvC t S M) (hJ : InvR S M) (k : ∀ M1 S1 : Mem, SOK S1 → InvC (t + 1) S1 M1 → InvR S1 M1 → WW G n E 4 Q 1422 (LV G b t) [] M1) : WW G n E 4 Q 1352 (LV G b t) [] M := by
  refine w_aload_n C 1 dL_law_1352 rfl rfl ?_
  refine w_arg C X hL ht (a := 1) (by decide) (by decide) dL_law_1353 dL_law_1354 dL_law_1355 dL_law_1356 dL_law_1357 ?_
  refine w_arg C X hL ht (a := 2) (by decide) (by decide) dL_law_1358 dL_law_1359 dL_law_1360 dL_law_1361 dL_law_1362 ?_
  refine back_I (run_V C HR ml_X9_write (ci := 9) rfl (by decide) (Nat.le_of_ble_eq_true rfl) gl989 gl990 gl988 (by decide) rfl (Nat.le_of_ble_eq_true rfl) dL_law_1363 (As := [.int (xs (7 * t + 1)), .int (xs (7 * t + 2))]) rfl (c_X9_write _ _ _ _ (C_write hS hI (xs (7 * t + 1)) (xs (7 * t + 2)) (Q := fun r M1 => r = a_write S (xs (7 * t + 1)) (xs (7 * t + 2)) ∧ InvC (t + 1) (n_write S (xs (7 * t + 1)) (xs (7 * t + 2))) M1 ∧ FrC M M1) (fun M1 h1 f1 => ⟨rfl, h1, f1⟩)))) (fun r0 M1 hw => ?_)
  obtain ⟨rfl, h1, f1⟩ := hw
  refine w_aload_n C 2 dL_law_1366 rfl rfl ?_
  refine w_arg C X hL ht (a := 1) (by decide) (by decide) dL_law_1367 dL_law_1368 dL_law_1369 dL_law_1370 dL_law_1371 ?_
  refine w_arg C X hL ht (a := 2) (by decide) (by decide) dL_law_1372 dL_law_1373 dL_law_1374 dL_law_1375 dL_law_1376 ?_
  refine back_I (run_V C HR ml_X10_write (ci := 10) rfl (by decide) (Nat.le_of_ble_eq_true rfl) gl1478 gl1479 gl1477 (by decide) rfl (Nat.le_of_ble_eq_true rfl) dL_law_1377 (As := [.int (xs (7 * t + 1)), .int (xs (7 * t + 2))]) rfl (c_X10_write _ _ _ _ (R_write hS (hJ.frC f1) (xs (7 * t + 1)) (xs (7 * t + 2)) (Q := fun r M2 => r = a_write S (xs (7 * t + 1)) (xs (7 * t + 2)) ∧ InvR (n_write S (xs (7 * t + 1)) (xs (7 * t + 2))) M2 ∧ FrR M1 M2) (fun M2 h2 f2 => ⟨rfl, h2, f2⟩)))) (fun r1 M2 hw => ?_)
  obtain ⟨rfl, h2, f2⟩ := hw
  refine w_icmp_eq C dL_law_1380 (tgt := 1422) rfl (fun _ => ?_) (fun h => absurd rfl h)
  exact k _ _ (S_write hS (xs (7 * t + 1)) (xs (7 * t + 2))) (h1.frR f2) h2
theorem lc_count (C : Cx G n E R_law cL_law 4) (X : SX G E b L xs) (HR : RM E 16 648) (hL : L ≤ 3584) (ht : 7 * t + 7 ≤ L) (h512 : t < 512) (hS : SOK S) (hI : InvC t S M) (hJ : InvR S M) (k : ∀ M1 S1 : Mem, SOK S1 → InvC (t + 1) S1 M1 → InvR S1 M1 → WW G n E 4 Q 1422 (LV G b t) [] M1) : WW G n E 4 Q 1385 (LV G b t) [] M := by
  refine w_aload_n C 1 dL_law_1385 rfl rfl ?_
  refine w_arg C X hL ht (a := 1) (by decide) (by decide) dL_law_1386 dL_law_1387 dL_law_1388 dL_law_1389 dL_law_1390 ?_
  refine back_I (run_V C HR ml_X9_count (ci := 9) rfl (by decide) (Nat.le_of_ble_eq_true rfl) gl993 gl994 gl992 (by decide) rfl (Nat.le_of_ble_eq_true rfl) dL_law_1391 (As := [.int (xs (7 * t + 1))]) rfl (c_X9_count _ _ _ (C_count hS hI (xs (7 * t + 1)) (Q := fun r M1 => r = a_count S (xs (7 * t + 1)) ∧ M1 = M) ⟨rfl, rfl⟩))) (fun r0 M1 hw => ?_)
  obtain ⟨rfl, rfl⟩ := hw
  refine w_aload_n C 2 dL_law_1394 rfl rfl ?_
  refine w_arg C X hL ht (a := 1) (by decide) (by decide) dL_law_1395 dL_law_1396 dL_law_1397 dL_law_1398 dL_law_1399 ?_
  refine back_I (run_V C HR ml_X10_count (ci := 10) rfl (by decide) (Nat.le_of_ble_eq_true rfl) gl1482 gl1483 gl1481 (by decide) rfl (Nat.le_of_ble_eq_true rfl) dL_law_1400 (As := [.int (xs (7 * t + 1))]) rfl (c_X10_count _ _ _ (R_count hS hJ (xs (7 * t + 1)) (Q := fun r M2 => r = a_count S (xs (7 * t + 1)) ∧ M2 = M1) ⟨rfl, rfl⟩))) (fun r1 M2 hw => ?_)
  obtain ⟨rfl, rfl⟩ := hw
  refine w_icmp_eq C dL_law_1403 (tgt := 1422) rfl (fun _ => ?_) (fun h => absurd rfl h)
  exact k _ _ hS hI.more hJ
theorem lc_digest (C : Cx G n E R_law cL_law 4) (X : SX G E b L xs) (HR : RM E 16 648) (hL : L ≤ 3584) (ht : 7 * t + 7 ≤ L) (h512 : t < 512) (hS : SOK S) (hI : InvC t S M) (hJ : InvR S M) (k : ∀ M1 S1 : Mem, SOK S1 → InvC (t + 1) S1 M1 → InvR S1 M1 → WW G n E 4 Q 1422 (LV G b t) [] M1) : WW G n E 4 Q 1408 (LV G b t) [] M := by
  refine w_aload_n C 1 dL_law_1408 rfl rfl ?_
  refine back_L (run_V C HR ml_X9_digest (ci := 9) rfl (by decide) (Nat.le_of_ble_eq_true rfl) gl1009 gl1010 gl1008 (by decide) rfl (Nat.le_of_ble_eq_true rfl) dL_law_1409 (As := []) rfl (c_X9_digest  _ _ (C_digest hS hI  (Q := fun r M1 => r = a_digest S ∧ InvC (t + 1) S M1 ∧ FrC M M1) (fun M1 h1 f1 => ⟨rfl, h1, f1⟩)))) (fun r0 M1 hw => ?_)
  obtain ⟨rfl, h1, f1⟩ := hw
  refine w_aload_n C 2 dL_law_1412 rfl rfl ?_
  refine back_L (run_V C HR ml_X10_digest (ci := 10) rfl (by decide) (Nat.le_of_ble_eq_true rfl) gl1486 gl1487 gl1485 (by decide) rfl (Nat.le_of_ble_eq_true rfl) dL_law_1413 (As := []) rfl (c_X10_digest  _ _ (R_digest hS (hJ.frC f1)  (Q := fun r M2 => r = a_digest S ∧ InvR S M2 ∧ FrR M1 M2) (fun M2 h2 f2 => ⟨rfl, h2, f2⟩)))) (fun r1 M2 hw => ?_)
  obtain ⟨rfl, h2, f2⟩ := hw
  refine w_lcmp C dL_law_1416 ?_
  refine w_if_eq C dL_law_1417 (tgt := 1422) rfl (fun _ => ?_) (fun h => absurd lg_same h)
  exact k _ _ hS (h1.frR f2) h2
end CASES
