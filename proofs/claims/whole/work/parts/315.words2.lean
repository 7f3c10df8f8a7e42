theorem cw_3_15 : nx_CW RX3 15 yX7_within cX7_within 2 (some .boolean) 2 := ⟨wd_443, wd_192, ⟨by decide +kernel, by decide +kernel⟩, by decide +kernel, Nat.le_of_ble_eq_true rfl, Or.inr ⟨"LateStamps", List.mem_of_getElem? (i := 290) (by decide +kernel)⟩⟩
theorem us_3 : ∀ w ∈ u_ws RX3 TX3 2, w ∈ nx_TB := nx_sub [275, 277] (by decide +kernel) (by decide +kernel)
theorem wd_271 : Cond.fieldLink RX3 11 "LateStamps$Script" "parts" "[I" ∈ nx_TB := nx_mem 271 (by decide +kernel) (by decide +kernel)
theorem fl_3_11 : nx_FL RX3 11 3 0 := ⟨RX3, TX3, 2, rfl, by decide, us_3, wd_271⟩
theorem us_5 : ∀ w ∈ u_ws RX5 TX5 4, w ∈ nx_TB := nx_sub [232, 234, 236, 238] (by decide +kernel) (by decide +kernel)
theorem wd_228 : Cond.fieldLink RX5 19 "LateStamps$Tape" "at" "I" ∈ nx_TB := nx_mem 228 (by decide +kernel) (by decide +kernel)
theorem fl_5_19 : nx_FL RX5 19 5 2 := ⟨RX5, TX5, 4, rfl, by decide, us_5, wd_228⟩
theorem ft_5_2 : nx_FT 5 2 false (.int) := ⟨RX5, TX5, 4, tyX5, rfl, by decide, tyX5_ok, nmX5, rfl, rfl, fun _ => rfl⟩
theorem wd_224 : Cond.fieldLink RX5 15 "LateStamps$Tape" "length" "I" ∈ nx_TB := nx_mem 224 (by decide +kernel) (by decide +kernel)
theorem fl_5_15 : nx_FL RX5 15 5 1 := ⟨RX5, TX5, 4, rfl, by decide, us_5, wd_224⟩
theorem wd_222 : Cond.fieldLink RX5 11 "LateStamps$Tape" "bytes" "[I" ∈ nx_TB := nx_mem 222 (by decide +kernel) (by decide +kernel)
theorem fl_5_11 : nx_FL RX5 11 5 0 := ⟨RX5, TX5, 4, rfl, by decide, us_5, wd_222⟩
theorem wd_427 : Cond.code yX5_signHere cX5_signHere 1 (some .int) ∈ nx_TB := nx_mem 427 (by decide +kernel) (by decide +kernel)
theorem wd_193 : Cond.initialized RX5 ∈ nx_TB := nx_mem 193 (by decide +kernel) (by decide +kernel)
theorem wd_424 : Cond.methodLink RX5 22 yX5_signHere ∈ nx_TB := nx_mem 424 (by decide +kernel) (by decide +kernel)
theorem cw_5_22 : nx_CW RX5 22 yX5_signHere cX5_signHere 1 (some .int) 0 := ⟨wd_427, wd_193, ⟨by decide +kernel, by decide +kernel⟩, by decide +kernel, Nat.le_of_ble_eq_true rfl, Or.inl wd_424⟩
theorem wd_426 : Cond.instanceMethod yX5_signHere ∈ nx_TB := nx_mem 426 (by decide +kernel) (by decide +kernel)
theorem wd_6 : Cond.selects RX5 yX5_signHere yX5_signHere ∈ nx_TB := nx_mem 6 (by decide +kernel) (by decide +kernel)
theorem cv_X5_signHere : nx_CV yX5_signHere 5 := ⟨wd_426, wd_6, TX5, 4, rfl⟩
theorem wd_423 : Cond.code yX5_nextSign cX5_nextSign 2 (some .int) ∈ nx_TB := nx_mem 423 (by decide +kernel) (by decide +kernel)
theorem wd_452 : Cond.methodLink RX5 26 yX5_nextSign ∈ nx_TB := nx_mem 452 (by decide +kernel) (by decide +kernel)
theorem cw_5_26 : nx_CW RX5 26 yX5_nextSign cX5_nextSign 2 (some .int) 0 := ⟨wd_423, wd_193, ⟨by decide +kernel, by decide +kernel⟩, by decide +kernel, Nat.le_of_ble_eq_true rfl, Or.inl wd_452⟩
theorem wd_422 : Cond.instanceMethod yX5_nextSign ∈ nx_TB := nx_mem 422 (by decide +kernel) (by decide +kernel)
theorem wd_5 : Cond.selects RX5 yX5_nextSign yX5_nextSign ∈ nx_TB := nx_mem 5 (by decide +kernel) (by decide +kernel)
theorem cv_X5_nextSign : nx_CV yX5_nextSign 5 := ⟨wd_422, wd_5, TX5, 4, rfl⟩
theorem wd_456 : Cond.code yX5_digitHere cX5_digitHere 2 (some .int) ∈ nx_TB := nx_mem 456 (by decide +kernel) (by decide +kernel)
theorem wd_453 : Cond.methodLink RX5 29 yX5_digitHere ∈ nx_TB := nx_mem 453 (by decide +kernel) (by decide +kernel)
theorem cw_5_29 : nx_CW RX5 29 yX5_digitHere cX5_digitHere 2 (some .int) 0 := ⟨wd_456, wd_193, ⟨by decide +kernel, by decide +kernel⟩, by decide +kernel, Nat.le_of_ble_eq_true rfl, Or.inl wd_453⟩
theorem wd_455 : Cond.instanceMethod yX5_digitHere ∈ nx_TB := nx_mem 455 (by decide +kernel) (by decide +kernel)
theorem wd_10 : Cond.selects RX5 yX5_digitHere yX5_digitHere ∈ nx_TB := nx_mem 10 (by decide +kernel) (by decide +kernel)
theorem cv_X5_digitHere : nx_CV yX5_digitHere 5 := ⟨wd_455, wd_10, TX5, 4, rfl⟩
theorem wd_231 : Cond.fieldLink RX5 32 "LateStamps$Tape" "number" "I" ∈ nx_TB := nx_mem 231 (by decide +kernel) (by decide +kernel)
theorem fl_5_32 : nx_FL RX5 32 5 3 := ⟨RX5, TX5, 4, rfl, by decide, us_5, wd_231⟩
theorem ft_5_3 : nx_FT 5 3 false (.int) := ⟨RX5, TX5, 4, tyX5, rfl, by decide, tyX5_ok, nmX5, rfl, rfl, fun _ => rfl⟩
theorem cw_3_35 : nx_CW RX3 35 yX5_nextSign cX5_nextSign 2 (some .int) 0 := ⟨wd_423, wd_193, ⟨by decide +kernel, by decide +kernel⟩, by decide +kernel, Nat.le_of_ble_eq_true rfl, Or.inr ⟨"LateStamps", List.mem_of_getElem? (i := 279) (by decide +kernel)⟩⟩
theorem wd_431 : Cond.code yX5_pass cX5_pass 1 none ∈ nx_TB := nx_mem 431 (by decide +kernel) (by decide +kernel)
theorem cw_3_39 : nx_CW RX3 39 yX5_pass cX5_pass 1 none 0 := ⟨wd_431, wd_193, ⟨by decide +kernel, by decide +kernel⟩, by decide +kernel, Nat.le_of_ble_eq_true rfl, Or.inr ⟨"LateStamps", List.mem_of_getElem? (i := 283) (by decide +kernel)⟩⟩
theorem wd_430 : Cond.instanceMethod yX5_pass ∈ nx_TB := nx_mem 430 (by decide +kernel) (by decide +kernel)
theorem wd_7 : Cond.selects RX5 yX5_pass yX5_pass ∈ nx_TB := nx_mem 7 (by decide +kernel) (by decide +kernel)
theorem cv_X5_pass : nx_CV yX5_pass 5 := ⟨wd_430, wd_7, TX5, 4, rfl⟩
theorem wd_451 : Cond.code yX5_hasNumber cX5_hasNumber 3 (some .boolean) ∈ nx_TB := nx_mem 451 (by decide +kernel) (by decide +kernel)
theorem cw_3_52 : nx_CW RX3 52 yX5_hasNumber cX5_hasNumber 3 (some .boolean) 2 := ⟨wd_451, wd_193, ⟨by decide +kernel, by decide +kernel⟩, by decide +kernel, Nat.le_of_ble_eq_true rfl, Or.inr ⟨"LateStamps", List.mem_of_getElem? (i := 289) (by decide +kernel)⟩⟩
theorem wd_450 : Cond.instanceMethod yX5_hasNumber ∈ nx_TB := nx_mem 450 (by decide +kernel) (by decide +kernel)
theorem wd_9 : Cond.selects RX5 yX5_hasNumber yX5_hasNumber ∈ nx_TB := nx_mem 9 (by decide +kernel) (by decide +kernel)
theorem cv_X5_hasNumber : nx_CV yX5_hasNumber 5 := ⟨wd_450, wd_9, TX5, 4, rfl⟩
theorem fl_3_55 : nx_FN RX3 55 5 3 := ⟨RX5, TX5, 4, "LateStamps", rfl, by decide, us_5, List.mem_of_getElem? (i := 38) (by decide +kernel)⟩
theorem wd_473 : Cond.code yX3_kindOf cX3_kindOf 1 (some .int) ∈ nx_TB := nx_mem 473 (by decide +kernel) (by decide +kernel)
theorem wd_195 : Cond.initialized RX3 ∈ nx_TB := nx_mem 195 (by decide +kernel) (by decide +kernel)
theorem wd_471 : Cond.methodLink RX3 42 yX3_kindOf ∈ nx_TB := nx_mem 471 (by decide +kernel) (by decide +kernel)
theorem cw_3_42 : nx_CW RX3 42 yX3_kindOf cX3_kindOf 1 (some .int) 1 := ⟨wd_473, wd_195, ⟨by decide +kernel, by decide +kernel⟩, by decide +kernel, Nat.le_of_ble_eq_true rfl, Or.inl wd_471⟩
theorem wd_472 : Cond.static yX3_kindOf ∈ nx_TB := nx_mem 472 (by decide +kernel) (by decide +kernel)
theorem cw_3_46 : nx_CW RX3 46 yX5_digitHere cX5_digitHere 2 (some .int) 0 := ⟨wd_456, wd_193, ⟨by decide +kernel, by decide +kernel⟩, by decide +kernel, Nat.le_of_ble_eq_true rfl, Or.inr ⟨"LateStamps", List.mem_of_getElem? (i := 284) (by decide +kernel)⟩⟩
theorem wd_479 : Cond.code yX3_hasValue cX3_hasValue 3 (some .boolean) ∈ nx_TB := nx_mem 479 (by decide +kernel) (by decide +kernel)
theorem wd_476 : Cond.methodLink RX3 49 yX3_hasValue ∈ nx_TB := nx_mem 476 (by decide +kernel) (by decide +kernel)
theorem cw_3_49 : nx_CW RX3 49 yX3_hasValue cX3_hasValue 3 (some .boolean) 2 := ⟨wd_479, wd_195, ⟨by decide +kernel, by decide +kernel⟩, by decide +kernel, Nat.le_of_ble_eq_true rfl, Or.inl wd_476⟩
theorem wd_478 : Cond.instanceMethod yX3_hasValue ∈ nx_TB := nx_mem 478 (by decide +kernel) (by decide +kernel)
theorem wd_14 : Cond.selects RX3 yX3_hasValue yX3_hasValue ∈ nx_TB := nx_mem 14 (by decide +kernel) (by decide +kernel)
theorem cv_X3_hasValue : nx_CV yX3_hasValue 3 := ⟨wd_478, wd_14, TX3, 2, rfl⟩
theorem wd_415 : Cond.code yX5_rewind cX5_rewind 1 none ∈ nx_TB := nx_mem 415 (by decide +kernel) (by decide +kernel)
theorem cw_3_19 : nx_CW RX3 19 yX5_rewind cX5_rewind 1 none 0 := ⟨wd_415, wd_193, ⟨by decide +kernel, by decide +kernel⟩, by decide +kernel, Nat.le_of_ble_eq_true rfl, Or.inr ⟨"LateStamps", List.mem_of_getElem? (i := 274) (by decide +kernel)⟩⟩
theorem wd_414 : Cond.instanceMethod yX5_rewind ∈ nx_TB := nx_mem 414 (by decide +kernel) (by decide +kernel)
theorem wd_3 : Cond.selects RX5 yX5_rewind yX5_rewind ∈ nx_TB := nx_mem 3 (by decide +kernel) (by decide +kernel)
theorem cv_X5_rewind : nx_CV yX5_rewind 5 := ⟨wd_414, wd_3, TX5, 4, rfl⟩
theorem wd_272 : Cond.fieldLink RX3 24 "LateStamps$Script" "length" "I" ∈ nx_TB := nx_mem 272 (by decide +kernel) (by decide +kernel)
theorem fl_3_24 : nx_FL RX3 24 3 1 := ⟨RX3, TX3, 2, rfl, by decide, us_3, wd_272⟩
theorem ft_3_1 : nx_FT 3 1 false (.int) := ⟨RX3, TX3, 2, tyX3, rfl, by decide, tyX3_ok, nmX3, rfl, rfl, fun _ => rfl⟩
theorem wd_469 : Cond.code yX3_hasStep cX3_hasStep 6 (some .boolean) ∈ nx_TB := nx_mem 469 (by decide +kernel) (by decide +kernel)
theorem wd_466 : Cond.methodLink RX3 28 yX3_hasStep ∈ nx_TB := nx_mem 466 (by decide +kernel) (by decide +kernel)
theorem cw_3_28 : nx_CW RX3 28 yX3_hasStep cX3_hasStep 6 (some .boolean) 2 := ⟨wd_469, wd_195, ⟨by decide +kernel, by decide +kernel⟩, by decide +kernel, Nat.le_of_ble_eq_true rfl, Or.inl wd_466⟩
theorem wd_468 : Cond.instanceMethod yX3_hasStep ∈ nx_TB := nx_mem 468 (by decide +kernel) (by decide +kernel)
theorem wd_13 : Cond.selects RX3 yX3_hasStep yX3_hasStep ∈ nx_TB := nx_mem 13 (by decide +kernel) (by decide +kernel)
theorem cv_X3_hasStep : nx_CV yX3_hasStep 3 := ⟨wd_468, wd_13, TX3, 2, rfl⟩
theorem fl_3_32 : nx_FN RX3 32 5 2 := ⟨RX5, TX5, 4, "LateStamps", rfl, by decide, us_5, List.mem_of_getElem? (i := 36) (by decide +kernel)⟩
theorem us_4 : ∀ w ∈ u_ws RX4 TX4 4, w ∈ nx_TB := nx_sub [255, 257, 259, 261] (by decide +kernel) (by decide +kernel)
theorem wd_248 : Cond.fieldLink RX4 11 "LateStamps$StoreText" "rules" "[I" ∈ nx_TB := nx_mem 248 (by decide +kernel) (by decide +kernel)
theorem fl_4_11 : nx_FL RX4 11 4 0 := ⟨RX4, TX4, 4, rfl, by decide, us_4, wd_248⟩
theorem wd_410 : Cond.fieldLink RX4 18 "LateStamps$StoreText" "WITHOUT" "[I" ∈ nx_TB := nx_mem 410 (by decide +kernel) (by decide +kernel)
theorem wd_252 : Cond.fieldLink RX4 21 "LateStamps$StoreText" "keys" "I" ∈ nx_TB := nx_mem 252 (by decide +kernel) (by decide +kernel)
theorem fl_4_21 : nx_FL RX4 21 4 2 := ⟨RX4, TX4, 4, rfl, by decide, us_4, wd_252⟩
theorem ft_4_2 : nx_FT 4 2 false (.int) := ⟨RX4, TX4, 4, tyX4, rfl, by decide, tyX4_ok, nmX4, rfl, rfl, fun _ => rfl⟩
theorem wd_254 : Cond.fieldLink RX4 25 "LateStamps$StoreText" "hasRules" "Z" ∈ nx_TB := nx_mem 254 (by decide +kernel) (by decide +kernel)
theorem fl_4_25 : nx_FL RX4 25 4 3 := ⟨RX4, TX4, 4, rfl, by decide, us_4, wd_254⟩
theorem ft_4_3 : nx_FT 4 3 false (.boolean) := ⟨RX4, TX4, 4, tyX4, rfl, by decide, tyX4_ok, nmX4, rfl, rfl, fun _ => rfl⟩
theorem wd_439 : Cond.fieldLink RX4 80 "LateStamps$StoreText" "LETTERS" "[I" ∈ nx_TB := nx_mem 439 (by decide +kernel) (by decide +kernel)
theorem cw_4_44 : nx_CW RX4 44 yX5_nextSign cX5_nextSign 2 (some .int) 0 := ⟨wd_423, wd_193, ⟨by decide +kernel, by decide +kernel⟩, by decide +kernel, Nat.le_of_ble_eq_true rfl, Or.inr ⟨"LateStamps", List.mem_of_getElem? (i := 229) (by decide +kernel)⟩⟩
theorem wd_438 : Cond.code yX4_ruleBy cX4_ruleBy 2 (some .int) ∈ nx_TB := nx_mem 438 (by decide +kernel) (by decide +kernel)
theorem wd_194 : Cond.initialized RX4 ∈ nx_TB := nx_mem 194 (by decide +kernel) (by decide +kernel)
theorem wd_436 : Cond.methodLink RX4 60 yX4_ruleBy ∈ nx_TB := nx_mem 436 (by decide +kernel) (by decide +kernel)
theorem cw_4_60 : nx_CW RX4 60 yX4_ruleBy cX4_ruleBy 2 (some .int) 1 := ⟨wd_438, wd_194, ⟨by decide +kernel, by decide +kernel⟩, by decide +kernel, Nat.le_of_ble_eq_true rfl, Or.inl wd_436⟩
theorem wd_437 : Cond.static yX4_ruleBy ∈ nx_TB := nx_mem 437 (by decide +kernel) (by decide +kernel)
theorem cw_4_64 : nx_CW RX4 64 yX7_within cX7_within 2 (some .boolean) 2 := ⟨wd_443, wd_192, ⟨by decide +kernel, by decide +kernel⟩, by decide +kernel, Nat.le_of_ble_eq_true rfl, Or.inr ⟨"LateStamps", List.mem_of_getElem? (i := 250) (by decide +kernel)⟩⟩
theorem cw_4_51 : nx_CW RX4 51 yX5_pass cX5_pass 1 none 0 := ⟨wd_431, wd_193, ⟨by decide +kernel, by decide +kernel⟩, by decide +kernel, Nat.le_of_ble_eq_true rfl, Or.inr ⟨"LateStamps", List.mem_of_getElem? (i := 237) (by decide +kernel)⟩⟩
theorem wd_444 : Cond.fieldLink RX4 68 "LateStamps$StoreText" "LEAST" "[I" ∈ nx_TB := nx_mem 444 (by decide +kernel) (by decide +kernel)
theorem wd_446 : Cond.fieldLink RX4 71 "LateStamps$StoreText" "GREATEST" "[I" ∈ nx_TB := nx_mem 446 (by decide +kernel) (by decide +kernel)
theorem cw_4_74 : nx_CW RX4 74 yX5_hasNumber cX5_hasNumber 3 (some .boolean) 2 := ⟨wd_451, wd_193, ⟨by decide +kernel, by decide +kernel⟩, by decide +kernel, Nat.le_of_ble_eq_true rfl, Or.inr ⟨"LateStamps", List.mem_of_getElem? (i := 257) (by decide +kernel)⟩⟩
theorem fl_4_77 : nx_FN RX4 77 5 3 := ⟨RX5, TX5, 4, "LateStamps", rfl, by decide, us_5, List.mem_of_getElem? (i := 39) (by decide +kernel)⟩
theorem wd_250 : Cond.fieldLink RX4 15 "LateStamps$StoreText" "values" "[I" ∈ nx_TB := nx_mem 250 (by decide +kernel) (by decide +kernel)
theorem fl_4_15 : nx_FL RX4 15 4 1 := ⟨RX4, TX4, 4, rfl, by decide, us_4, wd_250⟩
theorem wd_460 : Cond.code yX4_hasKeyItem cX4_hasKeyItem 2 (some .boolean) ∈ nx_TB := nx_mem 460 (by decide +kernel) (by decide +kernel)
theorem wd_457 : Cond.methodLink RX4 57 yX4_hasKeyItem ∈ nx_TB := nx_mem 457 (by decide +kernel) (by decide +kernel)
theorem cw_4_57 : nx_CW RX4 57 yX4_hasKeyItem cX4_hasKeyItem 2 (some .boolean) 1 := ⟨wd_460, wd_194, ⟨by decide +kernel, by decide +kernel⟩, by decide +kernel, Nat.le_of_ble_eq_true rfl, Or.inl wd_457⟩
theorem wd_459 : Cond.instanceMethod yX4_hasKeyItem ∈ nx_TB := nx_mem 459 (by decide +kernel) (by decide +kernel)
theorem wd_11 : Cond.selects RX4 yX4_hasKeyItem yX4_hasKeyItem ∈ nx_TB := nx_mem 11 (by decide +kernel) (by decide +kernel)
theorem cv_X4_hasKeyItem : nx_CV yX4_hasKeyItem 4 := ⟨wd_459, wd_11, TX4, 4, rfl⟩
theorem wd_435 : Cond.code yX4_hasRuleItems cX4_hasRuleItems 5 (some .boolean) ∈ nx_TB := nx_mem 435 (by decide +kernel) (by decide +kernel)
theorem wd_432 : Cond.methodLink RX4 54 yX4_hasRuleItems ∈ nx_TB := nx_mem 432 (by decide +kernel) (by decide +kernel)
theorem cw_4_54 : nx_CW RX4 54 yX4_hasRuleItems cX4_hasRuleItems 5 (some .boolean) 1 := ⟨wd_435, wd_194, ⟨by decide +kernel, by decide +kernel⟩, by decide +kernel, Nat.le_of_ble_eq_true rfl, Or.inl wd_432⟩
theorem wd_434 : Cond.instanceMethod yX4_hasRuleItems ∈ nx_TB := nx_mem 434 (by decide +kernel) (by decide +kernel)
theorem wd_8 : Cond.selects RX4 yX4_hasRuleItems yX4_hasRuleItems ∈ nx_TB := nx_mem 8 (by decide +kernel) (by decide +kernel)
theorem cv_X4_hasRuleItems : nx_CV yX4_hasRuleItems 4 := ⟨wd_434, wd_8, TX4, 4, rfl⟩
theorem wd_409 : Cond.code yX4_reset cX4_reset 2 none ∈ nx_TB := nx_mem 409 (by decide +kernel) (by decide +kernel)
theorem wd_406 : Cond.methodLink RX4 29 yX4_reset ∈ nx_TB := nx_mem 406 (by decide +kernel) (by decide +kernel)
theorem cw_4_29 : nx_CW RX4 29 yX4_reset cX4_reset 2 none 0 := ⟨wd_409, wd_194, ⟨by decide +kernel, by decide +kernel⟩, by decide +kernel, Nat.le_of_ble_eq_true rfl, Or.inl wd_406⟩
theorem wd_408 : Cond.instanceMethod yX4_reset ∈ nx_TB := nx_mem 408 (by decide +kernel) (by decide +kernel)
theorem wd_2 : Cond.selects RX4 yX4_reset yX4_reset ∈ nx_TB := nx_mem 2 (by decide +kernel) (by decide +kernel)
theorem cv_X4_reset : nx_CV yX4_reset 4 := ⟨wd_408, wd_2, TX4, 4, rfl⟩
theorem cw_4_32 : nx_CW RX4 32 yX5_rewind cX5_rewind 1 none 0 := ⟨wd_415, wd_193, ⟨by decide +kernel, by decide +kernel⟩, by decide +kernel, Nat.le_of_ble_eq_true rfl, Or.inr ⟨"LateStamps", List.mem_of_getElem? (i := 221) (by decide +kernel)⟩⟩
theorem wd_419 : Cond.code yX4_hasClause cX4_hasClause 3 (some .boolean) ∈ nx_TB := nx_mem 419 (by decide +kernel) (by decide +kernel)
theorem wd_416 : Cond.methodLink RX4 37 yX4_hasClause ∈ nx_TB := nx_mem 416 (by decide +kernel) (by decide +kernel)
theorem cw_4_37 : nx_CW RX4 37 yX4_hasClause cX4_hasClause 3 (some .boolean) 1 := ⟨wd_419, wd_194, ⟨by decide +kernel, by decide +kernel⟩, by decide +kernel, Nat.le_of_ble_eq_true rfl, Or.inl wd_416⟩
theorem wd_418 : Cond.instanceMethod yX4_hasClause ∈ nx_TB := nx_mem 418 (by decide +kernel) (by decide +kernel)
theorem wd_4 : Cond.selects RX4 yX4_hasClause yX4_hasClause ∈ nx_TB := nx_mem 4 (by decide +kernel) (by decide +kernel)
theorem cv_X4_hasClause : nx_CV yX4_hasClause 4 := ⟨wd_418, wd_4, TX4, 4, rfl⟩
theorem fl_4_41 : nx_FN RX4 41 5 2 := ⟨RX5, TX5, 4, "LateStamps", rfl, by decide, us_5, List.mem_of_getElem? (i := 35) (by decide +kernel)⟩
theorem fl_4_48 : nx_FN RX4 48 5 1 := ⟨RX5, TX5, 4, "LateStamps", rfl, by decide, us_5, List.mem_of_getElem? (i := 34) (by decide +kernel)⟩
theorem ft_5_1 : nx_FT 5 1 false (.int) := ⟨RX5, TX5, 4, tyX5, rfl, by decide, tyX5_ok, nmX5, rfl, rfl, fun _ => rfl⟩
