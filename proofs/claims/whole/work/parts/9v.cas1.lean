/-! the calls of the law, one after another (1) -/
section ZLC
variable {p : Program} {l : Launch} {e : Env} {s : State} {m : MethodId} {below : List Frame} {meth : Method} {c : Code} {b : Nat} {dC : Nat → ClassId} {dI : Nat → Nat → Nat} {dA : Nat → ClassId} {locC locM : Nat → Nat} {L : Nat} {xs : Nat → Int32}
variable {n : Nat} {FC AC AM : Nat → Nat → Int32} {FM : Nat → Int32} {cells slots : Nat}
theorem case_addLeg (hG : lwAll p s m meth c b L xs dC dI dA locC locM) (hn : n + 5 ≤ L) (hc : cells + 200 ≤ 600000 ∧ slots + 2000 ≤ 7302250) (hR : Rel FC AC FM AM) (hk : ∀ FC1 AC1 FM1 AM1, Rel FC1 AC1 FM1 AM1 → LW p l e s m below meth c b dC dI dA locC locM 1441 n [] FC1 AC1 FM1 AM1 (cells + 200) (slots + 2000)) : LW p l e s m below meth c b dC dI dA locC locM 220 n [] FC AC FM AM cells slots := by
  obtain ⟨P, H, S, E, X, hP, hC, hM⟩ := hR
  refine LW.a1 hG dL_law_220 ?_
  refine LW.arg (k := 1) hG (by omega) rfl dL_law_221 dL_law_222 dL_law_223 dL_law_224 dL_law_225 ?_
  refine LW.arg (k := 2) hG (by omega) rfl dL_law_226 dL_law_227 dL_law_228 dL_law_229 dL_law_230 ?_
  refine LW.arg (k := 3) hG (by omega) rfl dL_law_231 dL_law_232 dL_law_233 dL_law_234 dL_law_235 ?_
  refine LW.arg (k := 4) hG (by omega) rfl dL_law_236 dL_law_237 dL_law_238 dL_law_239 dL_law_240 ?_
  refine LW.cc (As := [.int (Int32.ofInt (xi xs (n + 1))), .int (Int32.ofInt (xi xs (n + 2))), .int (Int32.ofInt (xi xs (n + 3))), .int (Int32.ofInt (xi xs (n + 4)))]) (rest := []) (d := 24) hG lm_X8_addLeg ls_X8_addLeg rfl (by decide) ⟨rfl, rfl⟩ (fun _ => rfl) (by decide) dL_law_241 (by omega) ?_
  refine j_addLeg xi_r xi_r xi_r xi_r hC.1 hP hC.2.1 (fun FC1 AC1 q1 q2 q3 q4 => ⟨_, _, _, rfl, rfl, ?_⟩)
  have hC1 := hC.ch q1 q2 q4
  refine LW.a2 hG dL_law_244 ?_
  refine LW.arg (k := 1) hG (by omega) rfl dL_law_245 dL_law_246 dL_law_247 dL_law_248 dL_law_249 ?_
  refine LW.arg (k := 2) hG (by omega) rfl dL_law_250 dL_law_251 dL_law_252 dL_law_253 dL_law_254 ?_
  refine LW.arg (k := 3) hG (by omega) rfl dL_law_255 dL_law_256 dL_law_257 dL_law_258 dL_law_259 ?_
  refine LW.arg (k := 4) hG (by omega) rfl dL_law_260 dL_law_261 dL_law_262 dL_law_263 dL_law_264 ?_
  refine LW.cm (As := [.int (Int32.ofInt (xi xs (n + 1))), .int (Int32.ofInt (xi xs (n + 2))), .int (Int32.ofInt (xi xs (n + 3))), .int (Int32.ofInt (xi xs (n + 4)))]) (rest := [.int _]) (d := 24) hG lm_X9_addLeg ls_X9_addLeg rfl (by decide) (by decide) (fun _ => rfl) (Nat.le_of_ble_eq_true rfl) dL_law_265 ⟨by show cells + 0 ≤ _; omega, by show slots + 0 ≤ _; omega⟩ ?_
  refine q_addLeg xi_r xi_r xi_r xi_r hM.1 hP hM.2.1 hM.2.2.2.2.2 (fun FM1 AM1 r1 r2 r3 => ⟨_, _, _, rfl, rfl, ?_⟩)
  simp only [Bool.false_eq_true, or_false, if_false] at r3
  have hM1 := hM.c r1 r2 r3
  refine LW.same hG dL_law_268 (by decide) ?_
  exact LW.widen (Nat.add_le_add_left (by decide) _) (Nat.add_le_add_left (by decide) _) (hk _ _ _ _ ⟨_, _, _, _, _, q3, hC1, hM1⟩)
theorem case_addCrew (hG : lwAll p s m meth c b L xs dC dI dA locC locM) (hn : n + 5 ≤ L) (hc : cells + 200 ≤ 600000 ∧ slots + 2000 ≤ 7302250) (hR : Rel FC AC FM AM) (hk : ∀ FC1 AC1 FM1 AM1, Rel FC1 AC1 FM1 AM1 → LW p l e s m below meth c b dC dI dA locC locM 1441 n [] FC1 AC1 FM1 AM1 (cells + 200) (slots + 2000)) : LW p l e s m below meth c b dC dI dA locC locM 273 n [] FC AC FM AM cells slots := by
  obtain ⟨P, H, S, E, X, hP, hC, hM⟩ := hR
  refine LW.a1 hG dL_law_273 ?_
  refine LW.arg (k := 1) hG (by omega) rfl dL_law_274 dL_law_275 dL_law_276 dL_law_277 dL_law_278 ?_
  refine LW.cc (As := [.int (Int32.ofInt (xi xs (n + 1)))]) (rest := []) (d := 24) hG lm_X8_addCrew ls_X8_addCrew rfl (by decide) ⟨rfl, rfl⟩ (fun _ => rfl) (by decide) dL_law_279 (by omega) ?_
  refine j_addCrew xi_r hC.1 hP hC.2.1 (fun FC1 AC1 q1 q2 q3 q4 => ⟨_, _, _, rfl, rfl, ?_⟩)
  have hC1 := hC.ch q1 q2 q4
  refine LW.a2 hG dL_law_282 ?_
  refine LW.arg (k := 1) hG (by omega) rfl dL_law_283 dL_law_284 dL_law_285 dL_law_286 dL_law_287 ?_
  refine LW.cm (As := [.int (Int32.ofInt (xi xs (n + 1)))]) (rest := [.int _]) (d := 24) hG lm_X9_addCrew ls_X9_addCrew rfl (by decide) (by decide) (fun _ => rfl) (Nat.le_of_ble_eq_true rfl) dL_law_288 ⟨by show cells + 0 ≤ _; omega, by show slots + 0 ≤ _; omega⟩ ?_
  refine q_addCrew xi_r hM.1 hP hM.2.1 hM.2.2.2.2.2 (fun FM1 AM1 r1 r2 r3 => ⟨_, _, _, rfl, rfl, ?_⟩)
  simp only [Bool.false_eq_true, or_false, if_false] at r3
  have hM1 := hM.c r1 r2 r3
  refine LW.same hG dL_law_291 (by decide) ?_
  exact LW.widen (Nat.add_le_add_left (by decide) _) (Nat.add_le_add_left (by decide) _) (hk _ _ _ _ ⟨_, _, _, _, _, q3, hC1, hM1⟩)
theorem case_legCount (hG : lwAll p s m meth c b L xs dC dI dA locC locM) (hn : n + 5 ≤ L) (hc : cells + 200 ≤ 600000 ∧ slots + 2000 ≤ 7302250) (hR : Rel FC AC FM AM) (hk : ∀ FC1 AC1 FM1 AM1, Rel FC1 AC1 FM1 AM1 → LW p l e s m below meth c b dC dI dA locC locM 1441 n [] FC1 AC1 FM1 AM1 (cells + 200) (slots + 2000)) : LW p l e s m below meth c b dC dI dA locC locM 296 n [] FC AC FM AM cells slots := by
  obtain ⟨P, H, S, E, X, hP, hC, hM⟩ := hR
  refine LW.a1 hG dL_law_296 ?_
  refine LW.cc (As := []) (rest := []) (d := 21) hG lm_X8_legCount ls_X8_legCount rfl (by decide) ⟨rfl, rfl⟩ (fun _ => rfl) (by decide) dL_law_297 (by omega) ?_
  refine j_legCount hC.1 ⟨_, _, _, rfl, rfl, ?_⟩
  have hC1 := hC
  refine LW.a2 hG dL_law_300 ?_
  refine LW.cm (As := []) (rest := [.int _]) (d := 21) hG lm_X9_legCount ls_X9_legCount rfl (by decide) (by decide) (fun _ => rfl) (Nat.le_of_ble_eq_true rfl) dL_law_301 ⟨by show cells + 0 ≤ _; omega, by show slots + 0 ≤ _; omega⟩ ?_
  refine q_legCount hM.1 ⟨_, _, _, rfl, rfl, ?_⟩
  have hM1 := hM
  refine LW.same hG dL_law_304 (by decide) ?_
  exact LW.widen (Nat.add_le_add_left (by decide) _) (Nat.add_le_add_left (by decide) _) (hk _ _ _ _ ⟨_, _, _, _, _, hP, hC1, hM1⟩)
theorem case_crewCount (hG : lwAll p s m meth c b L xs dC dI dA locC locM) (hn : n + 5 ≤ L) (hc : cells + 200 ≤ 600000 ∧ slots + 2000 ≤ 7302250) (hR : Rel FC AC FM AM) (hk : ∀ FC1 AC1 FM1 AM1, Rel FC1 AC1 FM1 AM1 → LW p l e s m below meth c b dC dI dA locC locM 1441 n [] FC1 AC1 FM1 AM1 (cells + 200) (slots + 2000)) : LW p l e s m below meth c b dC dI dA locC locM 309 n [] FC AC FM AM cells slots := by
  obtain ⟨P, H, S, E, X, hP, hC, hM⟩ := hR
  refine LW.a1 hG dL_law_309 ?_
  refine LW.cc (As := []) (rest := []) (d := 21) hG lm_X8_crewCount ls_X8_crewCount rfl (by decide) ⟨rfl, rfl⟩ (fun _ => rfl) (by decide) dL_law_310 (by omega) ?_
  refine j_crewCount hC.1 ⟨_, _, _, rfl, rfl, ?_⟩
  have hC1 := hC
  refine LW.a2 hG dL_law_313 ?_
  refine LW.cm (As := []) (rest := [.int _]) (d := 21) hG lm_X9_crewCount ls_X9_crewCount rfl (by decide) (by decide) (fun _ => rfl) (Nat.le_of_ble_eq_true rfl) dL_law_314 ⟨by show cells + 0 ≤ _; omega, by show slots + 0 ≤ _; omega⟩ ?_
  refine q_crewCount hM.1 ⟨_, _, _, rfl, rfl, ?_⟩
  have hM1 := hM
  refine LW.same hG dL_law_317 (by decide) ?_
  exact LW.widen (Nat.add_le_add_left (by decide) _) (Nat.add_le_add_left (by decide) _) (hk _ _ _ _ ⟨_, _, _, _, _, hP, hC1, hM1⟩)
theorem case_leg (hG : lwAll p s m meth c b L xs dC dI dA locC locM) (hn : n + 5 ≤ L) (hc : cells + 200 ≤ 600000 ∧ slots + 2000 ≤ 7302250) (hR : Rel FC AC FM AM) (hk : ∀ FC1 AC1 FM1 AM1, Rel FC1 AC1 FM1 AM1 → LW p l e s m below meth c b dC dI dA locC locM 1441 n [] FC1 AC1 FM1 AM1 (cells + 200) (slots + 2000)) : LW p l e s m below meth c b dC dI dA locC locM 322 n [] FC AC FM AM cells slots := by
  obtain ⟨P, H, S, E, X, hP, hC, hM⟩ := hR
  refine LW.a1 hG dL_law_322 ?_
  refine LW.arg (k := 1) hG (by omega) rfl dL_law_323 dL_law_324 dL_law_325 dL_law_326 dL_law_327 ?_
  refine LW.arg (k := 2) hG (by omega) rfl dL_law_328 dL_law_329 dL_law_330 dL_law_331 dL_law_332 ?_
  refine LW.cc (As := [.int (Int32.ofInt (xi xs (n + 1))), .int (Int32.ofInt (xi xs (n + 2)))]) (rest := []) (d := 22) hG lm_X8_leg ls_X8_leg rfl (by decide) ⟨rfl, rfl⟩ (fun _ => rfl) (by decide) dL_law_333 (by omega) ?_
  refine j_leg xi_r xi_r hC.1 hP (fun FC1 AC1 q1 => ⟨_, _, _, rfl, rfl, ?_⟩)
  have hC1 := hC.cr q1
  refine LW.a2 hG dL_law_336 ?_
  refine LW.arg (k := 1) hG (by omega) rfl dL_law_337 dL_law_338 dL_law_339 dL_law_340 dL_law_341 ?_
  refine LW.arg (k := 2) hG (by omega) rfl dL_law_342 dL_law_343 dL_law_344 dL_law_345 dL_law_346 ?_
  refine LW.cm (As := [.int (Int32.ofInt (xi xs (n + 1))), .int (Int32.ofInt (xi xs (n + 2)))]) (rest := [.int _]) (d := 25) hG lm_X9_leg ls_X9_leg rfl (by decide) (by decide) (fun _ => rfl) (Nat.le_of_ble_eq_true rfl) dL_law_347 ⟨by show cells + 0 ≤ _; omega, by show slots + 0 ≤ _; omega⟩ ?_
  refine q_leg xi_r xi_r hM.1 hP ⟨_, _, _, rfl, rfl, ?_⟩
  have hM1 := hM
  refine LW.same hG dL_law_350 (by decide) ?_
  exact LW.widen (Nat.add_le_add_left (by decide) _) (Nat.add_le_add_left (by decide) _) (hk _ _ _ _ ⟨_, _, _, _, _, hP, hC1, hM1⟩)
theorem case_setRule (hG : lwAll p s m meth c b L xs dC dI dA locC locM) (hn : n + 5 ≤ L) (hc : cells + 200 ≤ 600000 ∧ slots + 2000 ≤ 7302250) (hR : Rel FC AC FM AM) (hk : ∀ FC1 AC1 FM1 AM1, Rel FC1 AC1 FM1 AM1 → LW p l e s m below meth c b dC dI dA locC locM 1441 n [] FC1 AC1 FM1 AM1 (cells + 200) (slots + 2000)) : LW p l e s m below meth c b dC dI dA locC locM 355 n [] FC AC FM AM cells slots := by
  obtain ⟨P, H, S, E, X, hP, hC, hM⟩ := hR
  refine LW.a1 hG dL_law_355 ?_
  refine LW.arg (k := 1) hG (by omega) rfl dL_law_356 dL_law_357 dL_law_358 dL_law_359 dL_law_360 ?_
  refine LW.arg (k := 2) hG (by omega) rfl dL_law_361 dL_law_362 dL_law_363 dL_law_364 dL_law_365 ?_
  refine LW.cc (As := [.int (Int32.ofInt (xi xs (n + 1))), .int (Int32.ofInt (xi xs (n + 2)))]) (rest := []) (d := 24) hG lm_X8_setRule ls_X8_setRule rfl (by decide) ⟨rfl, rfl⟩ (fun _ => rfl) (by decide) dL_law_366 (by omega) ?_
  refine j_setRule xi_r xi_r hC.1 hP hC.2.1 (fun FC1 AC1 q1 q2 q3 q4 => ⟨_, _, _, rfl, rfl, ?_⟩)
  have hC1 := hC.ch q1 q2 q4
  refine LW.a2 hG dL_law_369 ?_
  refine LW.arg (k := 1) hG (by omega) rfl dL_law_370 dL_law_371 dL_law_372 dL_law_373 dL_law_374 ?_
  refine LW.arg (k := 2) hG (by omega) rfl dL_law_375 dL_law_376 dL_law_377 dL_law_378 dL_law_379 ?_
  refine LW.cm (As := [.int (Int32.ofInt (xi xs (n + 1))), .int (Int32.ofInt (xi xs (n + 2)))]) (rest := [.int _]) (d := 24) hG lm_X9_setRule ls_X9_setRule rfl (by decide) (by decide) (fun _ => rfl) (Nat.le_of_ble_eq_true rfl) dL_law_380 ⟨by show cells + 0 ≤ _; omega, by show slots + 0 ≤ _; omega⟩ ?_
  refine q_setRule xi_r xi_r hM.1 hP hM.2.1 hM.2.2.2.2.2 (fun FM1 AM1 r1 r2 r3 => ⟨_, _, _, rfl, rfl, ?_⟩)
  simp only [Bool.false_eq_true, or_false, if_false] at r3
  have hM1 := hM.c r1 r2 r3
  refine LW.same hG dL_law_383 (by decide) ?_
  exact LW.widen (Nat.add_le_add_left (by decide) _) (Nat.add_le_add_left (by decide) _) (hk _ _ _ _ ⟨_, _, _, _, _, q3, hC1, hM1⟩)
theorem case_rule (hG : lwAll p s m meth c b L xs dC dI dA locC locM) (hn : n + 5 ≤ L) (hc : cells + 200 ≤ 600000 ∧ slots + 2000 ≤ 7302250) (hR : Rel FC AC FM AM) (hk : ∀ FC1 AC1 FM1 AM1, Rel FC1 AC1 FM1 AM1 → LW p l e s m below meth c b dC dI dA locC locM 1441 n [] FC1 AC1 FM1 AM1 (cells + 200) (slots + 2000)) : LW p l e s m below meth c b dC dI dA locC locM 388 n [] FC AC FM AM cells slots := by
  obtain ⟨P, H, S, E, X, hP, hC, hM⟩ := hR
  refine LW.a1 hG dL_law_388 ?_
  refine LW.arg (k := 1) hG (by omega) rfl dL_law_389 dL_law_390 dL_law_391 dL_law_392 dL_law_393 ?_
  refine LW.cc (As := [.int (Int32.ofInt (xi xs (n + 1)))]) (rest := []) (d := 22) hG lm_X8_rule ls_X8_rule rfl (by decide) ⟨rfl, rfl⟩ (fun _ => rfl) (by decide) dL_law_394 (by omega) ?_
  refine j_rule xi_r hC.1 (fun FC1 AC1 q1 => ⟨_, _, _, rfl, rfl, ?_⟩)
  have hC1 := hC.cr q1
  refine LW.a2 hG dL_law_397 ?_
  refine LW.arg (k := 1) hG (by omega) rfl dL_law_398 dL_law_399 dL_law_400 dL_law_401 dL_law_402 ?_
  refine LW.cm (As := [.int (Int32.ofInt (xi xs (n + 1)))]) (rest := [.int _]) (d := 22) hG lm_X9_rule ls_X9_rule rfl (by decide) (by decide) (fun _ => rfl) (Nat.le_of_ble_eq_true rfl) dL_law_403 ⟨by show cells + 0 ≤ _; omega, by show slots + 0 ≤ _; omega⟩ ?_
  refine q_rule xi_r hM.1 ⟨_, _, _, rfl, rfl, ?_⟩
  have hM1 := hM
  refine LW.same hG dL_law_406 (by decide) ?_
  exact LW.widen (Nat.add_le_add_left (by decide) _) (Nat.add_le_add_left (by decide) _) (hk _ _ _ _ ⟨_, _, _, _, _, hP, hC1, hM1⟩)
theorem case_fly (hG : lwAll p s m meth c b L xs dC dI dA locC locM) (hn : n + 5 ≤ L) (hc : cells + 200 ≤ 600000 ∧ slots + 2000 ≤ 7302250) (hR : Rel FC AC FM AM) (hk : ∀ FC1 AC1 FM1 AM1, Rel FC1 AC1 FM1 AM1 → LW p l e s m below meth c b dC dI dA locC locM 1441 n [] FC1 AC1 FM1 AM1 (cells + 200) (slots + 2000)) : LW p l e s m below meth c b dC dI dA locC locM 411 n [] FC AC FM AM cells slots := by
  obtain ⟨P, H, S, E, X, hP, hC, hM⟩ := hR
  refine LW.a1 hG dL_law_411 ?_
  refine LW.arg (k := 1) hG (by omega) rfl dL_law_412 dL_law_413 dL_law_414 dL_law_415 dL_law_416 ?_
  refine LW.arg (k := 2) hG (by omega) rfl dL_law_417 dL_law_418 dL_law_419 dL_law_420 dL_law_421 ?_
  refine LW.cc (As := [.int (Int32.ofInt (xi xs (n + 1))), .int (Int32.ofInt (xi xs (n + 2)))]) (rest := []) (d := 26) hG lm_X8_fly ls_X8_fly rfl (by decide) ⟨rfl, rfl⟩ (fun _ => rfl) (by decide) dL_law_422 (by omega) ?_
  refine j_fly xi_r xi_r hC.1 hP hC.2.1 (fun FC1 AC1 q1 q2 q3 q4 => ⟨_, _, _, rfl, rfl, ?_⟩)
  have hC1 := hC.ch q1 q2 q4
  refine LW.a2 hG dL_law_425 ?_
  refine LW.arg (k := 1) hG (by omega) rfl dL_law_426 dL_law_427 dL_law_428 dL_law_429 dL_law_430 ?_
  refine LW.arg (k := 2) hG (by omega) rfl dL_law_431 dL_law_432 dL_law_433 dL_law_434 dL_law_435 ?_
  refine LW.cm (As := [.int (Int32.ofInt (xi xs (n + 1))), .int (Int32.ofInt (xi xs (n + 2)))]) (rest := [.int _]) (d := 32) hG lm_X9_fly ls_X9_fly rfl (by decide) (by decide) (fun _ => rfl) (Nat.le_of_ble_eq_true rfl) dL_law_436 ⟨by show cells + 0 ≤ _; omega, by show slots + 0 ≤ _; omega⟩ ?_
  refine q_fly xi_r xi_r hM.1 hP hM.2.1 hM.2.2.2.2.2 (fun FM1 AM1 r1 r2 r3 => ⟨_, _, _, rfl, rfl, ?_⟩)
  simp only [Bool.false_eq_true, or_false, if_false] at r3
  have hM1 := hM.c r1 r2 r3
  refine LW.same hG dL_law_439 (by decide) ?_
  exact LW.widen (Nat.add_le_add_left (by decide) _) (Nat.add_le_add_left (by decide) _) (hk _ _ _ _ ⟨_, _, _, _, _, q3, hC1, hM1⟩)
theorem case_ride (hG : lwAll p s m meth c b L xs dC dI dA locC locM) (hn : n + 5 ≤ L) (hc : cells + 200 ≤ 600000 ∧ slots + 2000 ≤ 7302250) (hR : Rel FC AC FM AM) (hk : ∀ FC1 AC1 FM1 AM1, Rel FC1 AC1 FM1 AM1 → LW p l e s m below meth c b dC dI dA locC locM 1441 n [] FC1 AC1 FM1 AM1 (cells + 200) (slots + 2000)) : LW p l e s m below meth c b dC dI dA locC locM 444 n [] FC AC FM AM cells slots := by
  obtain ⟨P, H, S, E, X, hP, hC, hM⟩ := hR
  refine LW.a1 hG dL_law_444 ?_
  refine LW.arg (k := 1) hG (by omega) rfl dL_law_445 dL_law_446 dL_law_447 dL_law_448 dL_law_449 ?_
  refine LW.arg (k := 2) hG (by omega) rfl dL_law_450 dL_law_451 dL_law_452 dL_law_453 dL_law_454 ?_
  refine LW.cc (As := [.int (Int32.ofInt (xi xs (n + 1))), .int (Int32.ofInt (xi xs (n + 2)))]) (rest := []) (d := 26) hG lm_X8_ride ls_X8_ride rfl (by decide) ⟨rfl, rfl⟩ (fun _ => rfl) (by decide) dL_law_455 (by omega) ?_
  refine j_ride xi_r xi_r hC.1 hP hC.2.1 (fun FC1 AC1 q1 q2 q3 q4 => ⟨_, _, _, rfl, rfl, ?_⟩)
  have hC1 := hC.ch q1 q2 q4
  refine LW.a2 hG dL_law_458 ?_
  refine LW.arg (k := 1) hG (by omega) rfl dL_law_459 dL_law_460 dL_law_461 dL_law_462 dL_law_463 ?_
  refine LW.arg (k := 2) hG (by omega) rfl dL_law_464 dL_law_465 dL_law_466 dL_law_467 dL_law_468 ?_
  refine LW.cm (As := [.int (Int32.ofInt (xi xs (n + 1))), .int (Int32.ofInt (xi xs (n + 2)))]) (rest := [.int _]) (d := 32) hG lm_X9_ride ls_X9_ride rfl (by decide) (by decide) (fun _ => rfl) (Nat.le_of_ble_eq_true rfl) dL_law_469 ⟨by show cells + 0 ≤ _; omega, by show slots + 0 ≤ _; omega⟩ ?_
  refine q_ride xi_r xi_r hM.1 hP hM.2.1 hM.2.2.2.2.2 (fun FM1 AM1 r1 r2 r3 => ⟨_, _, _, rfl, rfl, ?_⟩)
  simp only [Bool.false_eq_true, or_false, if_false] at r3
  have hM1 := hM.c r1 r2 r3
  refine LW.same hG dL_law_472 (by decide) ?_
  exact LW.widen (Nat.add_le_add_left (by decide) _) (Nat.add_le_add_left (by decide) _) (hk _ _ _ _ ⟨_, _, _, _, _, q3, hC1, hM1⟩)
theorem case_drop (hG : lwAll p s m meth c b L xs dC dI dA locC locM) (hn : n + 5 ≤ L) (hc : cells + 200 ≤ 600000 ∧ slots + 2000 ≤ 7302250) (hR : Rel FC AC FM AM) (hk : ∀ FC1 AC1 FM1 AM1, Rel FC1 AC1 FM1 AM1 → LW p l e s m below meth c b dC dI dA locC locM 1441 n [] FC1 AC1 FM1 AM1 (cells + 200) (slots + 2000)) : LW p l e s m below meth c b dC dI dA locC locM 477 n [] FC AC FM AM cells slots := by
  obtain ⟨P, H, S, E, X, hP, hC, hM⟩ := hR
  refine LW.a1 hG dL_law_477 ?_
  refine LW.arg (k := 1) hG (by omega) rfl dL_law_478 dL_law_479 dL_law_480 dL_law_481 dL_law_482 ?_
  refine LW.arg (k := 2) hG (by omega) rfl dL_law_483 dL_law_484 dL_law_485 dL_law_486 dL_law_487 ?_
  refine LW.cc (As := [.int (Int32.ofInt (xi xs (n + 1))), .int (Int32.ofInt (xi xs (n + 2)))]) (rest := []) (d := 24) hG lm_X8_drop ls_X8_drop rfl (by decide) ⟨rfl, rfl⟩ (fun _ => rfl) (by decide) dL_law_488 (by omega) ?_
  refine j_drop xi_r xi_r hC.1 hP hC.2.1 (fun FC1 AC1 q1 q2 q3 q4 => ⟨_, _, _, rfl, rfl, ?_⟩)
  have hC1 := hC.ch q1 q2 q4
  refine LW.a2 hG dL_law_491 ?_
  refine LW.arg (k := 1) hG (by omega) rfl dL_law_492 dL_law_493 dL_law_494 dL_law_495 dL_law_496 ?_
  refine LW.arg (k := 2) hG (by omega) rfl dL_law_497 dL_law_498 dL_law_499 dL_law_500 dL_law_501 ?_
  refine LW.cm (As := [.int (Int32.ofInt (xi xs (n + 1))), .int (Int32.ofInt (xi xs (n + 2)))]) (rest := [.int _]) (d := 25) hG lm_X9_drop ls_X9_drop rfl (by decide) (by decide) (fun _ => rfl) (Nat.le_of_ble_eq_true rfl) dL_law_502 ⟨by show cells + 0 ≤ _; omega, by show slots + 0 ≤ _; omega⟩ ?_
  refine q_drop xi_r xi_r hM.1 hP hM.2.1 hM.2.2.2.2.2 (fun FM1 AM1 r1 r2 r3 => ⟨_, _, _, rfl, rfl, ?_⟩)
  simp only [Bool.false_eq_true, or_false, if_false] at r3
  have hM1 := hM.c r1 r2 r3
  refine LW.same hG dL_law_505 (by decide) ?_
  exact LW.widen (Nat.add_le_add_left (by decide) _) (Nat.add_le_add_left (by decide) _) (hk _ _ _ _ ⟨_, _, _, _, _, q3, hC1, hM1⟩)
theorem case_reason (hG : lwAll p s m meth c b L xs dC dI dA locC locM) (hn : n + 5 ≤ L) (hc : cells + 200 ≤ 600000 ∧ slots + 2000 ≤ 7302250) (hR : Rel FC AC FM AM) (hk : ∀ FC1 AC1 FM1 AM1, Rel FC1 AC1 FM1 AM1 → LW p l e s m below meth c b dC dI dA locC locM 1441 n [] FC1 AC1 FM1 AM1 (cells + 200) (slots + 2000)) : LW p l e s m below meth c b dC dI dA locC locM 510 n [] FC AC FM AM cells slots := by
  obtain ⟨P, H, S, E, X, hP, hC, hM⟩ := hR
  refine LW.a1 hG dL_law_510 ?_
  refine LW.arg (k := 1) hG (by omega) rfl dL_law_511 dL_law_512 dL_law_513 dL_law_514 dL_law_515 ?_
  refine LW.arg (k := 2) hG (by omega) rfl dL_law_516 dL_law_517 dL_law_518 dL_law_519 dL_law_520 ?_
  refine LW.argB (k := 3) hG (by omega) rfl dL_law_521 dL_law_522 dL_law_523 dL_law_524 dL_law_525 dL_law_526 rfl dL_law_529 dL_law_530 rfl dL_law_533 ?_
  refine LW.cc (As := [.int (Int32.ofInt (xi xs (n + 1))), .int (Int32.ofInt (xi xs (n + 2))), .int (Int32.ofInt (zb (decide (xi xs (n + 3) ≠ 0))))]) (rest := []) (d := 25) hG lm_X8_reason ls_X8_reason rfl (by decide) ⟨rfl, rfl⟩ (fun _ => rfl) (by decide) dL_law_534 (by omega) ?_
  refine j_reason rfl xi_r xi_r hC.1 hP (fun FC1 AC1 q1 => ⟨_, _, _, rfl, rfl, ?_⟩)
  have hC1 := hC.cr q1
  refine LW.a2 hG dL_law_537 ?_
  refine LW.arg (k := 1) hG (by omega) rfl dL_law_538 dL_law_539 dL_law_540 dL_law_541 dL_law_542 ?_
  refine LW.arg (k := 2) hG (by omega) rfl dL_law_543 dL_law_544 dL_law_545 dL_law_546 dL_law_547 ?_
  refine LW.argB (k := 3) hG (by omega) rfl dL_law_548 dL_law_549 dL_law_550 dL_law_551 dL_law_552 dL_law_553 rfl dL_law_556 dL_law_557 rfl dL_law_560 ?_
  refine LW.cm (As := [.int (Int32.ofInt (xi xs (n + 1))), .int (Int32.ofInt (xi xs (n + 2))), .int (Int32.ofInt (zb (decide (xi xs (n + 3) ≠ 0))))]) (rest := [.int _]) (d := 31) hG lm_X9_reason ls_X9_reason rfl (by decide) (by decide) (fun _ => rfl) (Nat.le_of_ble_eq_true rfl) dL_law_561 ⟨by show cells + 0 ≤ _; omega, by show slots + 0 ≤ _; omega⟩ ?_
  refine q_reason xi_r xi_r hM.1 hP (fun FM1 AM1 r1 r2 => ⟨_, _, _, rfl, rfl, ?_⟩)
  have hM1 := hM.r r1 r2
  refine LW.same hG dL_law_564 (by decide) ?_
  exact LW.widen (Nat.add_le_add_left (by decide) _) (Nat.add_le_add_left (by decide) _) (hk _ _ _ _ ⟨_, _, _, _, _, hP, hC1, hM1⟩)
theorem case_place (hG : lwAll p s m meth c b L xs dC dI dA locC locM) (hn : n + 5 ≤ L) (hc : cells + 200 ≤ 600000 ∧ slots + 2000 ≤ 7302250) (hR : Rel FC AC FM AM) (hk : ∀ FC1 AC1 FM1 AM1, Rel FC1 AC1 FM1 AM1 → LW p l e s m below meth c b dC dI dA locC locM 1441 n [] FC1 AC1 FM1 AM1 (cells + 200) (slots + 2000)) : LW p l e s m below meth c b dC dI dA locC locM 569 n [] FC AC FM AM cells slots := by
  obtain ⟨P, H, S, E, X, hP, hC, hM⟩ := hR
  refine LW.a1 hG dL_law_569 ?_
  refine LW.arg (k := 1) hG (by omega) rfl dL_law_570 dL_law_571 dL_law_572 dL_law_573 dL_law_574 ?_
  refine LW.arg (k := 2) hG (by omega) rfl dL_law_575 dL_law_576 dL_law_577 dL_law_578 dL_law_579 ?_
  refine LW.argB (k := 3) hG (by omega) rfl dL_law_580 dL_law_581 dL_law_582 dL_law_583 dL_law_584 dL_law_585 rfl dL_law_588 dL_law_589 rfl dL_law_592 ?_
  refine LW.cc (As := [.int (Int32.ofInt (xi xs (n + 1))), .int (Int32.ofInt (xi xs (n + 2))), .int (Int32.ofInt (zb (decide (xi xs (n + 3) ≠ 0))))]) (rest := []) (d := 25) hG lm_X8_place ls_X8_place rfl (by decide) ⟨rfl, rfl⟩ (fun _ => rfl) (by decide) dL_law_593 (by omega) ?_
  refine j_place rfl xi_r xi_r hC.1 hP (fun FC1 AC1 q1 => ⟨_, _, _, rfl, rfl, ?_⟩)
  have hC1 := hC.cr q1
  refine LW.a2 hG dL_law_596 ?_
  refine LW.arg (k := 1) hG (by omega) rfl dL_law_597 dL_law_598 dL_law_599 dL_law_600 dL_law_601 ?_
  refine LW.arg (k := 2) hG (by omega) rfl dL_law_602 dL_law_603 dL_law_604 dL_law_605 dL_law_606 ?_
  refine LW.argB (k := 3) hG (by omega) rfl dL_law_607 dL_law_608 dL_law_609 dL_law_610 dL_law_611 dL_law_612 rfl dL_law_615 dL_law_616 rfl dL_law_619 ?_
  refine LW.cm (As := [.int (Int32.ofInt (xi xs (n + 1))), .int (Int32.ofInt (xi xs (n + 2))), .int (Int32.ofInt (zb (decide (xi xs (n + 3) ≠ 0))))]) (rest := [.int _]) (d := 31) hG lm_X9_place ls_X9_place rfl (by decide) (by decide) (fun _ => rfl) (Nat.le_of_ble_eq_true rfl) dL_law_620 ⟨by show cells + 0 ≤ _; omega, by show slots + 0 ≤ _; omega⟩ ?_
  refine q_place xi_r xi_r hM.1 hP (fun FM1 AM1 r1 r2 => ⟨_, _, _, rfl, rfl, ?_⟩)
  have hM1 := hM.r r1 r2
  refine LW.same hG dL_law_623 (by decide) ?_
  exact LW.widen (Nat.add_le_add_left (by decide) _) (Nat.add_le_add_left (by decide) _) (hk _ _ _ _ ⟨_, _, _, _, _, hP, hC1, hM1⟩)
theorem case_itemCount (hG : lwAll p s m meth c b L xs dC dI dA locC locM) (hn : n + 5 ≤ L) (hc : cells + 200 ≤ 600000 ∧ slots + 2000 ≤ 7302250) (hR : Rel FC AC FM AM) (hk : ∀ FC1 AC1 FM1 AM1, Rel FC1 AC1 FM1 AM1 → LW p l e s m below meth c b dC dI dA locC locM 1441 n [] FC1 AC1 FM1 AM1 (cells + 200) (slots + 2000)) : LW p l e s m below meth c b dC dI dA locC locM 628 n [] FC AC FM AM cells slots := by
  obtain ⟨P, H, S, E, X, hP, hC, hM⟩ := hR
  refine LW.a1 hG dL_law_628 ?_
  refine LW.arg (k := 1) hG (by omega) rfl dL_law_629 dL_law_630 dL_law_631 dL_law_632 dL_law_633 ?_
  refine LW.cc (As := [.int (Int32.ofInt (xi xs (n + 1)))]) (rest := []) (d := 23) hG lm_X8_itemCount ls_X8_itemCount rfl (by decide) ⟨rfl, rfl⟩ (fun _ => rfl) (by decide) dL_law_634 (by omega) ?_
  refine j_itemCount xi_r hC.1 hP (fun FC1 AC1 q1 => ⟨_, _, _, rfl, rfl, ?_⟩)
  have hC1 := hC.cr q1
  refine LW.a2 hG dL_law_637 ?_
  refine LW.arg (k := 1) hG (by omega) rfl dL_law_638 dL_law_639 dL_law_640 dL_law_641 dL_law_642 ?_
  refine LW.cm (As := [.int (Int32.ofInt (xi xs (n + 1)))]) (rest := [.int _]) (d := 23) hG lm_X9_itemCount ls_X9_itemCount rfl (by decide) (by decide) (fun _ => rfl) (Nat.le_of_ble_eq_true rfl) dL_law_643 ⟨by show cells + 0 ≤ _; omega, by show slots + 0 ≤ _; omega⟩ ?_
  refine q_itemCount xi_r hM.1 hP ⟨_, _, _, rfl, rfl, ?_⟩
  have hM1 := hM
  refine LW.same hG dL_law_646 (by decide) ?_
  exact LW.widen (Nat.add_le_add_left (by decide) _) (Nat.add_le_add_left (by decide) _) (hk _ _ _ _ ⟨_, _, _, _, _, hP, hC1, hM1⟩)
theorem case_item (hG : lwAll p s m meth c b L xs dC dI dA locC locM) (hn : n + 5 ≤ L) (hc : cells + 200 ≤ 600000 ∧ slots + 2000 ≤ 7302250) (hR : Rel FC AC FM AM) (hk : ∀ FC1 AC1 FM1 AM1, Rel FC1 AC1 FM1 AM1 → LW p l e s m below meth c b dC dI dA locC locM 1441 n [] FC1 AC1 FM1 AM1 (cells + 200) (slots + 2000)) : LW p l e s m below meth c b dC dI dA locC locM 651 n [] FC AC FM AM cells slots := by
  obtain ⟨P, H, S, E, X, hP, hC, hM⟩ := hR
  refine LW.a1 hG dL_law_651 ?_
  refine LW.arg (k := 1) hG (by omega) rfl dL_law_652 dL_law_653 dL_law_654 dL_law_655 dL_law_656 ?_
  refine LW.arg (k := 2) hG (by omega) rfl dL_law_657 dL_law_658 dL_law_659 dL_law_660 dL_law_661 ?_
  refine LW.arg (k := 3) hG (by omega) rfl dL_law_662 dL_law_663 dL_law_664 dL_law_665 dL_law_666 ?_
  refine LW.cc (As := [.int (Int32.ofInt (xi xs (n + 1))), .int (Int32.ofInt (xi xs (n + 2))), .int (Int32.ofInt (xi xs (n + 3)))]) (rest := []) (d := 23) hG lm_X8_item ls_X8_item rfl (by decide) ⟨rfl, rfl⟩ (fun _ => rfl) (by decide) dL_law_667 (by omega) ?_
  refine j_item xi_r xi_r xi_r hC.1 hP (fun FC1 AC1 q1 => ⟨_, _, _, rfl, rfl, ?_⟩)
  have hC1 := hC.cr q1
  refine LW.a2 hG dL_law_670 ?_
  refine LW.arg (k := 1) hG (by omega) rfl dL_law_671 dL_law_672 dL_law_673 dL_law_674 dL_law_675 ?_
  refine LW.arg (k := 2) hG (by omega) rfl dL_law_676 dL_law_677 dL_law_678 dL_law_679 dL_law_680 ?_
  refine LW.arg (k := 3) hG (by omega) rfl dL_law_681 dL_law_682 dL_law_683 dL_law_684 dL_law_685 ?_
  refine LW.cm (As := [.int (Int32.ofInt (xi xs (n + 1))), .int (Int32.ofInt (xi xs (n + 2))), .int (Int32.ofInt (xi xs (n + 3)))]) (rest := [.int _]) (d := 25) hG lm_X9_item ls_X9_item rfl (by decide) (by decide) (fun _ => rfl) (Nat.le_of_ble_eq_true rfl) dL_law_686 ⟨by show cells + 0 ≤ _; omega, by show slots + 0 ≤ _; omega⟩ ?_
  refine q_item xi_r xi_r xi_r hM.1 hP (fun FM1 AM1 r1 => ⟨_, _, _, rfl, rfl, ?_⟩)
  have hM1 := hM.m r1
  refine LW.same hG dL_law_689 (by decide) ?_
  exact LW.widen (Nat.add_le_add_left (by decide) _) (Nat.add_le_add_left (by decide) _) (hk _ _ _ _ ⟨_, _, _, _, _, hP, hC1, hM1⟩)
theorem case_dutyCount (hG : lwAll p s m meth c b L xs dC dI dA locC locM) (hn : n + 5 ≤ L) (hc : cells + 200 ≤ 600000 ∧ slots + 2000 ≤ 7302250) (hR : Rel FC AC FM AM) (hk : ∀ FC1 AC1 FM1 AM1, Rel FC1 AC1 FM1 AM1 → LW p l e s m below meth c b dC dI dA locC locM 1441 n [] FC1 AC1 FM1 AM1 (cells + 200) (slots + 2000)) : LW p l e s m below meth c b dC dI dA locC locM 694 n [] FC AC FM AM cells slots := by
  obtain ⟨P, H, S, E, X, hP, hC, hM⟩ := hR
  refine LW.a1 hG dL_law_694 ?_
  refine LW.arg (k := 1) hG (by omega) rfl dL_law_695 dL_law_696 dL_law_697 dL_law_698 dL_law_699 ?_
  refine LW.cc (As := [.int (Int32.ofInt (xi xs (n + 1)))]) (rest := []) (d := 23) hG lm_X8_dutyCount ls_X8_dutyCount rfl (by decide) ⟨rfl, rfl⟩ (fun _ => rfl) (by decide) dL_law_700 (by omega) ?_
  refine j_dutyCount xi_r hC.1 hP (fun FC1 AC1 q1 => ⟨_, _, _, rfl, rfl, ?_⟩)
  have hC1 := hC.cr q1
  refine LW.a2 hG dL_law_703 ?_
  refine LW.arg (k := 1) hG (by omega) rfl dL_law_704 dL_law_705 dL_law_706 dL_law_707 dL_law_708 ?_
  refine LW.cm (As := [.int (Int32.ofInt (xi xs (n + 1)))]) (rest := [.int _]) (d := 25) hG lm_X9_dutyCount ls_X9_dutyCount rfl (by decide) (by decide) (fun _ => rfl) (Nat.le_of_ble_eq_true rfl) dL_law_709 ⟨by show cells + 0 ≤ _; omega, by show slots + 0 ≤ _; omega⟩ ?_
  refine q_dutyCount xi_r hM.1 hP (fun FM1 AM1 r1 => ⟨_, _, _, rfl, rfl, ?_⟩)
  have hM1 := hM.m r1
  refine LW.same hG dL_law_712 (by decide) ?_
  exact LW.widen (Nat.add_le_add_left (by decide) _) (Nat.add_le_add_left (by decide) _) (hk _ _ _ _ ⟨_, _, _, _, _, hP, hC1, hM1⟩)
theorem case_duty (hG : lwAll p s m meth c b L xs dC dI dA locC locM) (hn : n + 5 ≤ L) (hc : cells + 200 ≤ 600000 ∧ slots + 2000 ≤ 7302250) (hR : Rel FC AC FM AM) (hk : ∀ FC1 AC1 FM1 AM1, Rel FC1 AC1 FM1 AM1 → LW p l e s m below meth c b dC dI dA locC locM 1441 n [] FC1 AC1 FM1 AM1 (cells + 200) (slots + 2000)) : LW p l e s m below meth c b dC dI dA locC locM 717 n [] FC AC FM AM cells slots := by
  obtain ⟨P, H, S, E, X, hP, hC, hM⟩ := hR
  refine LW.a1 hG dL_law_717 ?_
  refine LW.arg (k := 1) hG (by omega) rfl dL_law_718 dL_law_719 dL_law_720 dL_law_721 dL_law_722 ?_
  refine LW.arg (k := 2) hG (by omega) rfl dL_law_723 dL_law_724 dL_law_725 dL_law_726 dL_law_727 ?_
  refine LW.arg (k := 3) hG (by omega) rfl dL_law_728 dL_law_729 dL_law_730 dL_law_731 dL_law_732 ?_
  refine LW.cc (As := [.int (Int32.ofInt (xi xs (n + 1))), .int (Int32.ofInt (xi xs (n + 2))), .int (Int32.ofInt (xi xs (n + 3)))]) (rest := []) (d := 23) hG lm_X8_duty ls_X8_duty rfl (by decide) ⟨rfl, rfl⟩ (fun _ => rfl) (by decide) dL_law_733 (by omega) ?_
  refine j_duty xi_r xi_r xi_r hC.1 hP (fun FC1 AC1 q1 => ⟨_, _, _, rfl, rfl, ?_⟩)
  have hC1 := hC.cr q1
  refine LW.a2 hG dL_law_736 ?_
  refine LW.arg (k := 1) hG (by omega) rfl dL_law_737 dL_law_738 dL_law_739 dL_law_740 dL_law_741 ?_
  refine LW.arg (k := 2) hG (by omega) rfl dL_law_742 dL_law_743 dL_law_744 dL_law_745 dL_law_746 ?_
  refine LW.arg (k := 3) hG (by omega) rfl dL_law_747 dL_law_748 dL_law_749 dL_law_750 dL_law_751 ?_
  refine LW.cm (As := [.int (Int32.ofInt (xi xs (n + 1))), .int (Int32.ofInt (xi xs (n + 2))), .int (Int32.ofInt (xi xs (n + 3)))]) (rest := [.int _]) (d := 26) hG lm_X9_duty ls_X9_duty rfl (by decide) (by decide) (fun _ => rfl) (Nat.le_of_ble_eq_true rfl) dL_law_752 ⟨by show cells + 0 ≤ _; omega, by show slots + 0 ≤ _; omega⟩ ?_
  refine q_duty xi_r xi_r xi_r hM.1 hP (fun FM1 AM1 r1 => ⟨_, _, _, rfl, rfl, ?_⟩)
  have hM1 := hM.m r1
  refine LW.same hG dL_law_755 (by decide) ?_
  exact LW.widen (Nat.add_le_add_left (by decide) _) (Nat.add_le_add_left (by decide) _) (hk _ _ _ _ ⟨_, _, _, _, _, hP, hC1, hM1⟩)
theorem case_violationCount (hG : lwAll p s m meth c b L xs dC dI dA locC locM) (hn : n + 5 ≤ L) (hc : cells + 200 ≤ 600000 ∧ slots + 2000 ≤ 7302250) (hR : Rel FC AC FM AM) (hk : ∀ FC1 AC1 FM1 AM1, Rel FC1 AC1 FM1 AM1 → LW p l e s m below meth c b dC dI dA locC locM 1441 n [] FC1 AC1 FM1 AM1 (cells + 200) (slots + 2000)) : LW p l e s m below meth c b dC dI dA locC locM 760 n [] FC AC FM AM cells slots := by
  obtain ⟨P, H, S, E, X, hP, hC, hM⟩ := hR
  refine LW.a1 hG dL_law_760 ?_
  refine LW.arg (k := 1) hG (by omega) rfl dL_law_761 dL_law_762 dL_law_763 dL_law_764 dL_law_765 ?_
  refine LW.cc (As := [.int (Int32.ofInt (xi xs (n + 1)))]) (rest := []) (d := 24) hG lm_X8_violationCount ls_X8_violationCount rfl (by decide) ⟨rfl, rfl⟩ (fun _ => rfl) (by decide) dL_law_766 (by omega) ?_
  refine j_violationCount xi_r hC.1 hP (fun FC1 AC1 q1 => ⟨_, _, _, rfl, rfl, ?_⟩)
  have hC1 := hC.cr q1
  refine LW.a2 hG dL_law_769 ?_
  refine LW.arg (k := 1) hG (by omega) rfl dL_law_770 dL_law_771 dL_law_772 dL_law_773 dL_law_774 ?_
  refine LW.cm (As := [.int (Int32.ofInt (xi xs (n + 1)))]) (rest := [.int _]) (d := 29) hG lm_X9_violationCount ls_X9_violationCount rfl (by decide) (by decide) (fun _ => rfl) (Nat.le_of_ble_eq_true rfl) dL_law_775 ⟨by show cells + 0 ≤ _; omega, by show slots + 0 ≤ _; omega⟩ ?_
  refine q_violationCount xi_r hM.1 hP (fun FM1 AM1 r1 => ⟨_, _, _, rfl, rfl, ?_⟩)
  have hM1 := hM.m r1
  refine LW.same hG dL_law_778 (by decide) ?_
  exact LW.widen (Nat.add_le_add_left (by decide) _) (Nat.add_le_add_left (by decide) _) (hk _ _ _ _ ⟨_, _, _, _, _, hP, hC1, hM1⟩)
theorem case_violation (hG : lwAll p s m meth c b L xs dC dI dA locC locM) (hn : n + 5 ≤ L) (hc : cells + 200 ≤ 600000 ∧ slots + 2000 ≤ 7302250) (hR : Rel FC AC FM AM) (hk : ∀ FC1 AC1 FM1 AM1, Rel FC1 AC1 FM1 AM1 → LW p l e s m below meth c b dC dI dA locC locM 1441 n [] FC1 AC1 FM1 AM1 (cells + 200) (slots + 2000)) : LW p l e s m below meth c b dC dI dA locC locM 783 n [] FC AC FM AM cells slots := by
  obtain ⟨P, H, S, E, X, hP, hC, hM⟩ := hR
  refine LW.a1 hG dL_law_783 ?_
  refine LW.arg (k := 1) hG (by omega) rfl dL_law_784 dL_law_785 dL_law_786 dL_law_787 dL_law_788 ?_
  refine LW.arg (k := 2) hG (by omega) rfl dL_law_789 dL_law_790 dL_law_791 dL_law_792 dL_law_793 ?_
  refine LW.arg (k := 3) hG (by omega) rfl dL_law_794 dL_law_795 dL_law_796 dL_law_797 dL_law_798 ?_
  refine LW.cc (As := [.int (Int32.ofInt (xi xs (n + 1))), .int (Int32.ofInt (xi xs (n + 2))), .int (Int32.ofInt (xi xs (n + 3)))]) (rest := []) (d := 24) hG lm_X8_violation ls_X8_violation rfl (by decide) ⟨rfl, rfl⟩ (fun _ => rfl) (by decide) dL_law_799 (by omega) ?_
  refine j_violation xi_r xi_r xi_r hC.1 hP (fun FC1 AC1 q1 => ⟨_, _, _, rfl, rfl, ?_⟩)
  have hC1 := hC.cr q1
  refine LW.a2 hG dL_law_802 ?_
  refine LW.arg (k := 1) hG (by omega) rfl dL_law_803 dL_law_804 dL_law_805 dL_law_806 dL_law_807 ?_
  refine LW.arg (k := 2) hG (by omega) rfl dL_law_808 dL_law_809 dL_law_810 dL_law_811 dL_law_812 ?_
  refine LW.arg (k := 3) hG (by omega) rfl dL_law_813 dL_law_814 dL_law_815 dL_law_816 dL_law_817 ?_
  refine LW.cm (As := [.int (Int32.ofInt (xi xs (n + 1))), .int (Int32.ofInt (xi xs (n + 2))), .int (Int32.ofInt (xi xs (n + 3)))]) (rest := [.int _]) (d := 28) hG lm_X9_violation ls_X9_violation rfl (by decide) (by decide) (fun _ => rfl) (Nat.le_of_ble_eq_true rfl) dL_law_818 ⟨by show cells + 0 ≤ _; omega, by show slots + 0 ≤ _; omega⟩ ?_
  refine q_violation xi_r xi_r xi_r hM.1 hP (fun FM1 AM1 r1 => ⟨_, _, _, rfl, rfl, ?_⟩)
  have hM1 := hM.m r1
  refine LW.same hG dL_law_821 (by decide) ?_
  exact LW.widen (Nat.add_le_add_left (by decide) _) (Nat.add_le_add_left (by decide) _) (hk _ _ _ _ ⟨_, _, _, _, _, hP, hC1, hM1⟩)
theorem case_minutes (hG : lwAll p s m meth c b L xs dC dI dA locC locM) (hn : n + 5 ≤ L) (hc : cells + 200 ≤ 600000 ∧ slots + 2000 ≤ 7302250) (hR : Rel FC AC FM AM) (hk : ∀ FC1 AC1 FM1 AM1, Rel FC1 AC1 FM1 AM1 → LW p l e s m below meth c b dC dI dA locC locM 1441 n [] FC1 AC1 FM1 AM1 (cells + 200) (slots + 2000)) : LW p l e s m below meth c b dC dI dA locC locM 826 n [] FC AC FM AM cells slots := by
  obtain ⟨P, H, S, E, X, hP, hC, hM⟩ := hR
  refine LW.a1 hG dL_law_826 ?_
  refine LW.arg (k := 1) hG (by omega) rfl dL_law_827 dL_law_828 dL_law_829 dL_law_830 dL_law_831 ?_
  refine LW.cc (As := [.int (Int32.ofInt (xi xs (n + 1)))]) (rest := []) (d := 23) hG lm_X8_minutes ls_X8_minutes rfl (by decide) ⟨rfl, rfl⟩ (fun _ => rfl) (by decide) dL_law_832 (by omega) ?_
  refine j_minutes xi_r hC.1 hP (fun FC1 AC1 q1 => ⟨_, _, _, rfl, rfl, ?_⟩)
  have hC1 := hC.cr q1
  refine LW.a2 hG dL_law_835 ?_
  refine LW.arg (k := 1) hG (by omega) rfl dL_law_836 dL_law_837 dL_law_838 dL_law_839 dL_law_840 ?_
  refine LW.cm (As := [.int (Int32.ofInt (xi xs (n + 1)))]) (rest := [.int _]) (d := 25) hG lm_X9_minutes ls_X9_minutes rfl (by decide) (by decide) (fun _ => rfl) (Nat.le_of_ble_eq_true rfl) dL_law_841 ⟨by show cells + 0 ≤ _; omega, by show slots + 0 ≤ _; omega⟩ ?_
  refine q_minutes xi_r hM.1 hP (fun FM1 AM1 r1 => ⟨_, _, _, rfl, rfl, ?_⟩)
  have hM1 := hM.m r1
  refine LW.same hG dL_law_844 (by decide) ?_
  exact LW.widen (Nat.add_le_add_left (by decide) _) (Nat.add_le_add_left (by decide) _) (hk _ _ _ _ ⟨_, _, _, _, _, hP, hC1, hM1⟩)
theorem case_within (hG : lwAll p s m meth c b L xs dC dI dA locC locM) (hn : n + 5 ≤ L) (hc : cells + 200 ≤ 600000 ∧ slots + 2000 ≤ 7302250) (hR : Rel FC AC FM AM) (hk : ∀ FC1 AC1 FM1 AM1, Rel FC1 AC1 FM1 AM1 → LW p l e s m below meth c b dC dI dA locC locM 1441 n [] FC1 AC1 FM1 AM1 (cells + 200) (slots + 2000)) : LW p l e s m below meth c b dC dI dA locC locM 849 n [] FC AC FM AM cells slots := by
  obtain ⟨P, H, S, E, X, hP, hC, hM⟩ := hR
  refine LW.a1 hG dL_law_849 ?_
  refine LW.arg (k := 1) hG (by omega) rfl dL_law_850 dL_law_851 dL_law_852 dL_law_853 dL_law_854 ?_
  refine LW.arg (k := 2) hG (by omega) rfl dL_law_855 dL_law_856 dL_law_857 dL_law_858 dL_law_859 ?_
  refine LW.arg (k := 3) hG (by omega) rfl dL_law_860 dL_law_861 dL_law_862 dL_law_863 dL_law_864 ?_
  refine LW.cc (As := [.int (Int32.ofInt (xi xs (n + 1))), .int (Int32.ofInt (xi xs (n + 2))), .int (Int32.ofInt (xi xs (n + 3)))]) (rest := []) (d := 23) hG lm_X8_within ls_X8_within rfl (by decide) ⟨rfl, rfl⟩ (fun _ => rfl) (by decide) dL_law_865 (by omega) ?_
  refine j_within xi_r xi_r xi_r hC.1 hP (fun FC1 AC1 q1 => ⟨_, _, _, rfl, rfl, ?_⟩)
  have hC1 := hC.cr q1
  refine LW.a2 hG dL_law_868 ?_
  refine LW.arg (k := 1) hG (by omega) rfl dL_law_869 dL_law_870 dL_law_871 dL_law_872 dL_law_873 ?_
  refine LW.arg (k := 2) hG (by omega) rfl dL_law_874 dL_law_875 dL_law_876 dL_law_877 dL_law_878 ?_
  refine LW.arg (k := 3) hG (by omega) rfl dL_law_879 dL_law_880 dL_law_881 dL_law_882 dL_law_883 ?_
  refine LW.cm (As := [.int (Int32.ofInt (xi xs (n + 1))), .int (Int32.ofInt (xi xs (n + 2))), .int (Int32.ofInt (xi xs (n + 3)))]) (rest := [.int _]) (d := 25) hG lm_X9_within ls_X9_within rfl (by decide) (by decide) (fun _ => rfl) (Nat.le_of_ble_eq_true rfl) dL_law_884 ⟨by show cells + 0 ≤ _; omega, by show slots + 0 ≤ _; omega⟩ ?_
  refine q_within xi_r xi_r xi_r hM.1 hP (fun FM1 AM1 r1 => ⟨_, _, _, rfl, rfl, ?_⟩)
  have hM1 := hM.m r1
  refine LW.same hG dL_law_887 (by decide) ?_
  exact LW.widen (Nat.add_le_add_left (by decide) _) (Nat.add_le_add_left (by decide) _) (hk _ _ _ _ ⟨_, _, _, _, _, hP, hC1, hM1⟩)
theorem case_home (hG : lwAll p s m meth c b L xs dC dI dA locC locM) (hn : n + 5 ≤ L) (hc : cells + 200 ≤ 600000 ∧ slots + 2000 ≤ 7302250) (hR : Rel FC AC FM AM) (hk : ∀ FC1 AC1 FM1 AM1, Rel FC1 AC1 FM1 AM1 → LW p l e s m below meth c b dC dI dA locC locM 1441 n [] FC1 AC1 FM1 AM1 (cells + 200) (slots + 2000)) : LW p l e s m below meth c b dC dI dA locC locM 892 n [] FC AC FM AM cells slots := by
  obtain ⟨P, H, S, E, X, hP, hC, hM⟩ := hR
  refine LW.a1 hG dL_law_892 ?_
  refine LW.arg (k := 1) hG (by omega) rfl dL_law_893 dL_law_894 dL_law_895 dL_law_896 dL_law_897 ?_
  refine LW.cc (As := [.int (Int32.ofInt (xi xs (n + 1)))]) (rest := []) (d := 23) hG lm_X8_home ls_X8_home rfl (by decide) ⟨rfl, rfl⟩ (fun _ => rfl) (by decide) dL_law_898 (by omega) ?_
  refine j_home xi_r hC.1 hP (fun FC1 AC1 q1 => ⟨_, _, _, rfl, rfl, ?_⟩)
  have hC1 := hC.cr q1
  refine LW.a2 hG dL_law_901 ?_
  refine LW.arg (k := 1) hG (by omega) rfl dL_law_902 dL_law_903 dL_law_904 dL_law_905 dL_law_906 ?_
  refine LW.cm (As := [.int (Int32.ofInt (xi xs (n + 1)))]) (rest := [.int _]) (d := 23) hG lm_X9_home ls_X9_home rfl (by decide) (by decide) (fun _ => rfl) (Nat.le_of_ble_eq_true rfl) dL_law_907 ⟨by show cells + 0 ≤ _; omega, by show slots + 0 ≤ _; omega⟩ ?_
  refine q_home xi_r hM.1 hP (fun FM1 AM1 r1 => ⟨_, _, _, rfl, rfl, ?_⟩)
  have hM1 := hM.m r1
  refine LW.same hG dL_law_910 (by decide) ?_
  exact LW.widen (Nat.add_le_add_left (by decide) _) (Nat.add_le_add_left (by decide) _) (hk _ _ _ _ ⟨_, _, _, _, _, hP, hC1, hM1⟩)
theorem case_pairings (hG : lwAll p s m meth c b L xs dC dI dA locC locM) (hn : n + 5 ≤ L) (hc : cells + 200 ≤ 600000 ∧ slots + 2000 ≤ 7302250) (hR : Rel FC AC FM AM) (hk : ∀ FC1 AC1 FM1 AM1, Rel FC1 AC1 FM1 AM1 → LW p l e s m below meth c b dC dI dA locC locM 1441 n [] FC1 AC1 FM1 AM1 (cells + 200) (slots + 2000)) : LW p l e s m below meth c b dC dI dA locC locM 915 n [] FC AC FM AM cells slots := by
  obtain ⟨P, H, S, E, X, hP, hC, hM⟩ := hR
  refine LW.a1 hG dL_law_915 ?_
  refine LW.arg (k := 1) hG (by omega) rfl dL_law_916 dL_law_917 dL_law_918 dL_law_919 dL_law_920 ?_
  refine LW.cc (As := [.int (Int32.ofInt (xi xs (n + 1)))]) (rest := []) (d := 23) hG lm_X8_pairings ls_X8_pairings rfl (by decide) ⟨rfl, rfl⟩ (fun _ => rfl) (by decide) dL_law_921 (by omega) ?_
  refine j_pairings xi_r hC.1 hP (fun FC1 AC1 q1 => ⟨_, _, _, rfl, rfl, ?_⟩)
  have hC1 := hC.cr q1
  refine LW.a2 hG dL_law_924 ?_
  refine LW.arg (k := 1) hG (by omega) rfl dL_law_925 dL_law_926 dL_law_927 dL_law_928 dL_law_929 ?_
  refine LW.cm (As := [.int (Int32.ofInt (xi xs (n + 1)))]) (rest := [.int _]) (d := 25) hG lm_X9_pairings ls_X9_pairings rfl (by decide) (by decide) (fun _ => rfl) (Nat.le_of_ble_eq_true rfl) dL_law_930 ⟨by show cells + 0 ≤ _; omega, by show slots + 0 ≤ _; omega⟩ ?_
  refine q_pairings xi_r hM.1 hP (fun FM1 AM1 r1 => ⟨_, _, _, rfl, rfl, ?_⟩)
  have hM1 := hM.m r1
  refine LW.same hG dL_law_933 (by decide) ?_
  exact LW.widen (Nat.add_le_add_left (by decide) _) (Nat.add_le_add_left (by decide) _) (hk _ _ _ _ ⟨_, _, _, _, _, hP, hC1, hM1⟩)
end ZLC
