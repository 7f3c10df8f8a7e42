theorem wd_315 : Cond.methodLink RX0 3 Lib.objectInit ∈ nx_TB := nx_mem 315 (by decide +kernel) (by decide +kernel)
theorem wd_214 : Cond.instanceMethod Lib.objectInit ∈ nx_TB := nx_mem 214 (by decide +kernel) (by decide +kernel)
theorem wd_215 : Cond.code Lib.objectInit ⟨#[0xb1]⟩ 1 none ∈ nx_TB := nx_mem 215 (by decide +kernel) (by decide +kernel)
theorem wd_316 : Cond.classLink RX0 11 RX6 ∈ nx_TB := nx_mem 316 (by decide +kernel) (by decide +kernel)
theorem us_0 : ∀ w ∈ u_ws RX0 TX0 6, w ∈ nx_TB := nx_sub [323, 325, 327, 329, 331, 333] (by decide +kernel) (by decide +kernel)
theorem wd_317 : Cond.fieldLink RX0 13 "LateStamps$Apart" "levels" "[LLateStamps$World;" ∈ nx_TB := nx_mem 317 (by decide +kernel) (by decide +kernel)
theorem fl_0_13 : nx_FL RX0 13 0 0 := ⟨RX0, TX0, 6, rfl, by decide, us_0, wd_317⟩
theorem ft_0_0 : nx_FT 0 0 true (.array (.object "LateStamps$World")) := ⟨RX0, TX0, 6, tyX0, rfl, by decide, tyX0_ok, nmX0, rfl, rfl, fun _ => rfl⟩
theorem wd_285 : Cond.methodLink RX6 5 Lib.objectInit ∈ nx_TB := nx_mem 285 (by decide +kernel) (by decide +kernel)
theorem wd_241 : Cond.arrayClass .int ∈ nx_TB := nx_mem 241 (by decide +kernel) (by decide +kernel)
theorem ft_6_0 : nx_FT 6 0 true (.array .int) := ⟨RX6, TX6, 1, tyX6, rfl, by decide, tyX6_ok, nmX6, rfl, rfl, fun _ => rfl⟩
theorem wd_887 : Cond.methodLink RX0 17 Lib.Math.min.name ∈ nx_TB := nx_mem 887 (by decide +kernel) (by decide +kernel)
theorem wd_888 : Cond.methodLink RX0 23 Lib.Math.max.name ∈ nx_TB := nx_mem 888 (by decide +kernel) (by decide +kernel)
theorem wd_281 : Cond.instantiable RX6 1 ∈ nx_TB := nx_mem 281 (by decide +kernel) (by decide +kernel)
theorem cn_0_11 : nx_CN RX0 11 6 [.null] 1 := ⟨RX6, TX6, tyX6, rfl, us_6, tyX6_ok, wd_316, wd_281, wd_196, fun j hj => match j, hj with | 0, _ => rfl | j + 1, h => absurd h (by omega)⟩
theorem wd_284 : Cond.code yX6_init cX6_init 1 none ∈ nx_TB := nx_mem 284 (by decide +kernel) (by decide +kernel)
theorem cw_0_26 : nx_CW RX0 26 yX6_init cX6_init 1 none 0 := ⟨wd_284, wd_196, ⟨by decide +kernel, by decide +kernel⟩, by decide +kernel, Nat.le_of_ble_eq_true rfl, Or.inr ⟨"LateStamps", List.mem_of_getElem? (i := 698) (by decide +kernel)⟩⟩
theorem wd_283 : Cond.instanceMethod yX6_init ∈ nx_TB := nx_mem 283 (by decide +kernel) (by decide +kernel)
theorem wd_886 : Cond.code yX0_level cX0_level 3 (some (.object "LateStamps$World")) ∈ nx_TB := nx_mem 886 (by decide +kernel) (by decide +kernel)
theorem wd_198 : Cond.initialized RX0 ∈ nx_TB := nx_mem 198 (by decide +kernel) (by decide +kernel)
theorem wd_883 : Cond.methodLink RX0 27 yX0_level ∈ nx_TB := nx_mem 883 (by decide +kernel) (by decide +kernel)
theorem cw_0_27 : nx_CW RX0 27 yX0_level cX0_level 3 (some (.object "LateStamps$World")) 1 := ⟨wd_886, wd_198, ⟨by decide +kernel, by decide +kernel⟩, by decide +kernel, Nat.le_of_ble_eq_true rfl, Or.inl wd_883⟩
theorem wd_885 : Cond.instanceMethod yX0_level ∈ nx_TB := nx_mem 885 (by decide +kernel) (by decide +kernel)
theorem wd_86 : Cond.selects RX0 yX0_level yX0_level ∈ nx_TB := nx_mem 86 (by decide +kernel) (by decide +kernel)
theorem cv_X0_level : nx_CV yX0_level 0 := ⟨wd_885, wd_86, TX0, 6, rfl⟩
theorem wd_640 : Cond.code yX6_become cX6_become 2 none ∈ nx_TB := nx_mem 640 (by decide +kernel) (by decide +kernel)
theorem cw_0_31 : nx_CW RX0 31 yX6_become cX6_become 2 none 1 := ⟨wd_640, wd_196, ⟨by decide +kernel, by decide +kernel⟩, by decide +kernel, Nat.le_of_ble_eq_true rfl, Or.inr ⟨"LateStamps", List.mem_of_getElem? (i := 699) (by decide +kernel)⟩⟩
theorem wd_639 : Cond.instanceMethod yX6_become ∈ nx_TB := nx_mem 639 (by decide +kernel) (by decide +kernel)
theorem wd_45 : Cond.selects RX6 yX6_become yX6_become ∈ nx_TB := nx_mem 45 (by decide +kernel) (by decide +kernel)
theorem cv_X6_become : nx_CV yX6_become 6 := ⟨wd_639, wd_45, TX6, 1, rfl⟩
theorem wd_882 : Cond.code yX0_copyOf cX0_copyOf 3 (some (.object "LateStamps$World")) ∈ nx_TB := nx_mem 882 (by decide +kernel) (by decide +kernel)
theorem wd_879 : Cond.methodLink RX0 35 yX0_copyOf ∈ nx_TB := nx_mem 879 (by decide +kernel) (by decide +kernel)
theorem cw_0_35 : nx_CW RX0 35 yX0_copyOf cX0_copyOf 3 (some (.object "LateStamps$World")) 1 := ⟨wd_882, wd_198, ⟨by decide +kernel, by decide +kernel⟩, by decide +kernel, Nat.le_of_ble_eq_true rfl, Or.inl wd_879⟩
theorem wd_881 : Cond.instanceMethod yX0_copyOf ∈ nx_TB := nx_mem 881 (by decide +kernel) (by decide +kernel)
theorem wd_85 : Cond.selects RX0 yX0_copyOf yX0_copyOf ∈ nx_TB := nx_mem 85 (by decide +kernel) (by decide +kernel)
theorem cv_X0_copyOf : nx_CV yX0_copyOf 0 := ⟨wd_881, wd_85, TX0, 6, rfl⟩
theorem cw_0_39 : nx_CW RX0 39 yX6_pruneAll cX6_pruneAll 5 (some .int) 0 := ⟨wd_736, wd_196, ⟨by decide +kernel, by decide +kernel⟩, by decide +kernel, Nat.le_of_ble_eq_true rfl, Or.inr ⟨"LateStamps", List.mem_of_getElem? (i := 850) (by decide +kernel)⟩⟩
theorem cw_0_43 : nx_CW RX0 43 yX6_commitAt cX6_commitAt 4 (some .int) 1 := ⟨wd_722, wd_196, ⟨by decide +kernel, by decide +kernel⟩, by decide +kernel, Nat.le_of_ble_eq_true rfl, Or.inr ⟨"LateStamps", List.mem_of_getElem? (i := 700) (by decide +kernel)⟩⟩
theorem cw_0_47 : nx_CW RX0 47 yX6_seatsIn cX6_seatsIn 4 (some .int) 1 := ⟨wd_714, wd_196, ⟨by decide +kernel, by decide +kernel⟩, by decide +kernel, Nat.le_of_ble_eq_true rfl, Or.inr ⟨"LateStamps", List.mem_of_getElem? (i := 701) (by decide +kernel)⟩⟩
theorem wd_580 : Cond.code yX6_refusal cX6_refusal 5 (some .int) ∈ nx_TB := nx_mem 580 (by decide +kernel) (by decide +kernel)
theorem cw_0_50 : nx_CW RX0 50 yX6_refusal cX6_refusal 5 (some .int) 4 := ⟨wd_580, wd_196, ⟨by decide +kernel, by decide +kernel⟩, by decide +kernel, Nat.le_of_ble_eq_true rfl, Or.inr ⟨"LateStamps", List.mem_of_getElem? (i := 710) (by decide +kernel)⟩⟩
theorem wd_579 : Cond.instanceMethod yX6_refusal ∈ nx_TB := nx_mem 579 (by decide +kernel) (by decide +kernel)
theorem wd_31 : Cond.selects RX6 yX6_refusal yX6_refusal ∈ nx_TB := nx_mem 31 (by decide +kernel) (by decide +kernel)
theorem cv_X6_refusal : nx_CV yX6_refusal 6 := ⟨wd_579, wd_31, TX6, 1, rfl⟩
theorem wd_780 : Cond.code yX6_redoAll cX6_redoAll 5 (some .int) ∈ nx_TB := nx_mem 780 (by decide +kernel) (by decide +kernel)
theorem cw_0_54 : nx_CW RX0 54 yX6_redoAll cX6_redoAll 5 (some .int) 1 := ⟨wd_780, wd_196, ⟨by decide +kernel, by decide +kernel⟩, by decide +kernel, Nat.le_of_ble_eq_true rfl, Or.inr ⟨"LateStamps", List.mem_of_getElem? (i := 711) (by decide +kernel)⟩⟩
theorem wd_779 : Cond.instanceMethod yX6_redoAll ∈ nx_TB := nx_mem 779 (by decide +kernel) (by decide +kernel)
theorem wd_70 : Cond.selects RX6 yX6_redoAll yX6_redoAll ∈ nx_TB := nx_mem 70 (by decide +kernel) (by decide +kernel)
theorem cv_X6_redoAll : nx_CV yX6_redoAll 6 := ⟨wd_779, wd_70, TX6, 1, rfl⟩
theorem wd_531 : Cond.code yX6_stateOf cX6_stateOf 2 (some .int) ∈ nx_TB := nx_mem 531 (by decide +kernel) (by decide +kernel)
theorem cw_0_57 : nx_CW RX0 57 yX6_stateOf cX6_stateOf 2 (some .int) 1 := ⟨wd_531, wd_196, ⟨by decide +kernel, by decide +kernel⟩, by decide +kernel, Nat.le_of_ble_eq_true rfl, Or.inr ⟨"LateStamps", List.mem_of_getElem? (i := 712) (by decide +kernel)⟩⟩
theorem wd_530 : Cond.instanceMethod yX6_stateOf ∈ nx_TB := nx_mem 530 (by decide +kernel) (by decide +kernel)
theorem wd_23 : Cond.selects RX6 yX6_stateOf yX6_stateOf ∈ nx_TB := nx_mem 23 (by decide +kernel) (by decide +kernel)
theorem cv_X6_stateOf : nx_CV yX6_stateOf 6 := ⟨wd_530, wd_23, TX6, 1, rfl⟩
theorem wd_927 : Cond.code yX3_part cX3_part 3 (some .int) ∈ nx_TB := nx_mem 927 (by decide +kernel) (by decide +kernel)
theorem cw_0_70 : nx_CW RX0 70 yX3_part cX3_part 3 (some .int) 2 := ⟨wd_927, wd_195, ⟨by decide +kernel, by decide +kernel⟩, by decide +kernel, Nat.le_of_ble_eq_true rfl, Or.inr ⟨"LateStamps", List.mem_of_getElem? (i := 748) (by decide +kernel)⟩⟩
theorem wd_926 : Cond.instanceMethod yX3_part ∈ nx_TB := nx_mem 926 (by decide +kernel) (by decide +kernel)
theorem wd_91 : Cond.selects RX3 yX3_part yX3_part ∈ nx_TB := nx_mem 91 (by decide +kernel) (by decide +kernel)
theorem cv_X3_part : nx_CV yX3_part 3 := ⟨wd_926, wd_91, TX3, 2, rfl⟩
theorem wd_650 : Cond.code yX6_act cX6_act 5 (some .int) ∈ nx_TB := nx_mem 650 (by decide +kernel) (by decide +kernel)
theorem cw_0_73 : nx_CW RX0 73 yX6_act cX6_act 5 (some .int) 4 := ⟨wd_650, wd_196, ⟨by decide +kernel, by decide +kernel⟩, by decide +kernel, Nat.le_of_ble_eq_true rfl, Or.inr ⟨"LateStamps", List.mem_of_getElem? (i := 749) (by decide +kernel)⟩⟩
theorem wd_649 : Cond.instanceMethod yX6_act ∈ nx_TB := nx_mem 649 (by decide +kernel) (by decide +kernel)
theorem wd_46 : Cond.selects RX6 yX6_act yX6_act ∈ nx_TB := nx_mem 46 (by decide +kernel) (by decide +kernel)
theorem cv_X6_act : nx_CV yX6_act 6 := ⟨wd_649, wd_46, TX6, 1, rfl⟩
theorem fl_0_60 : nx_FN RX0 60 3 1 := ⟨RX3, TX3, 2, "LateStamps", rfl, by decide, us_3, List.mem_of_getElem? (i := 82) (by decide +kernel)⟩
theorem wd_938 : Cond.code yX0_goOn cX0_goOn 8 (some .boolean) ∈ nx_TB := nx_mem 938 (by decide +kernel) (by decide +kernel)
theorem wd_936 : Cond.methodLink RX0 66 yX0_goOn ∈ nx_TB := nx_mem 936 (by decide +kernel) (by decide +kernel)
theorem cw_0_66 : nx_CW RX0 66 yX0_goOn cX0_goOn 8 (some .boolean) 4 := ⟨wd_938, wd_198, ⟨by decide +kernel, by decide +kernel⟩, by decide +kernel, Nat.le_of_ble_eq_true rfl, Or.inl wd_936⟩
theorem wd_937 : Cond.static yX0_goOn ∈ nx_TB := nx_mem 937 (by decide +kernel) (by decide +kernel)
theorem wd_318 : Cond.fieldLink RX0 76 "LateStamps$Apart" "rows" "I" ∈ nx_TB := nx_mem 318 (by decide +kernel) (by decide +kernel)
theorem fl_0_76 : nx_FL RX0 76 0 1 := ⟨RX0, TX0, 6, rfl, by decide, us_0, wd_318⟩
theorem ft_0_1 : nx_FT 0 1 false (.int) := ⟨RX0, TX0, 6, tyX0, rfl, by decide, tyX0_ok, nmX0, rfl, rfl, fun _ => rfl⟩
theorem wd_319 : Cond.fieldLink RX0 79 "LateStamps$Apart" "firstRow" "I" ∈ nx_TB := nx_mem 319 (by decide +kernel) (by decide +kernel)
theorem fl_0_79 : nx_FL RX0 79 0 2 := ⟨RX0, TX0, 6, rfl, by decide, us_0, wd_319⟩
theorem ft_0_2 : nx_FT 0 2 false (.int) := ⟨RX0, TX0, 6, tyX0, rfl, by decide, tyX0_ok, nmX0, rfl, rfl, fun _ => rfl⟩
theorem fl_0_82 : nx_FN RX0 82 6 0 := ⟨RX6, TX6, 1, "LateStamps", rfl, by decide, us_6, List.mem_of_getElem? (i := 96) (by decide +kernel)⟩
theorem wd_322 : Cond.fieldLink RX0 99 "LateStamps$Apart" "drawn" "I" ∈ nx_TB := nx_mem 322 (by decide +kernel) (by decide +kernel)
theorem fl_0_99 : nx_FL RX0 99 0 5 := ⟨RX0, TX0, 6, rfl, by decide, us_0, wd_322⟩
theorem wd_341 : Cond.methodLink RX1 1 Lib.objectInit ∈ nx_TB := nx_mem 341 (by decide +kernel) (by decide +kernel)
theorem us_1 : ∀ w ∈ u_ws RX1 TX1 1, w ∈ nx_TB := nx_sub [343] (by decide +kernel) (by decide +kernel)
theorem wd_342 : Cond.fieldLink RX1 7 "LateStamps$Draws" "x" "J" ∈ nx_TB := nx_mem 342 (by decide +kernel) (by decide +kernel)
theorem fl_1_7 : nx_FL RX1 7 1 0 := ⟨RX1, TX1, 1, rfl, by decide, us_1, wd_342⟩
theorem ft_1_0 : nx_FT 1 0 false (.long) := ⟨RX1, TX1, 1, tyX1, rfl, by decide, tyX1_ok, nmX1, rfl, rfl, fun _ => rfl⟩
theorem wd_806 : Cond.constantLong RX1 13 6364136223846793005 ∈ nx_TB := nx_mem 806 (by decide +kernel) (by decide +kernel)
theorem wd_807 : Cond.constantLong RX1 15 1442695040888963407 ∈ nx_TB := nx_mem 807 (by decide +kernel) (by decide +kernel)
theorem wd_296 : Cond.methodLink RX2 3 Lib.objectInit ∈ nx_TB := nx_mem 296 (by decide +kernel) (by decide +kernel)
theorem wd_297 : Cond.classLink RX2 11 RX6 ∈ nx_TB := nx_mem 297 (by decide +kernel) (by decide +kernel)
theorem us_2 : ∀ w ∈ u_ws RX2 TX2 3, w ∈ nx_TB := nx_sub [303, 305, 307] (by decide +kernel) (by decide +kernel)
theorem wd_299 : Cond.fieldLink RX2 13 "LateStamps$Past" "states" "[LLateStamps$World;" ∈ nx_TB := nx_mem 299 (by decide +kernel) (by decide +kernel)
theorem fl_2_13 : nx_FL RX2 13 2 0 := ⟨RX2, TX2, 3, rfl, by decide, us_2, wd_299⟩
theorem ft_2_0 : nx_FT 2 0 true (.array (.object "LateStamps$World")) := ⟨RX2, TX2, 3, tyX2, rfl, by decide, tyX2_ok, nmX2, rfl, rfl, fun _ => rfl⟩
theorem wd_301 : Cond.fieldLink RX2 17 "LateStamps$Past" "size" "I" ∈ nx_TB := nx_mem 301 (by decide +kernel) (by decide +kernel)
theorem fl_2_17 : nx_FL RX2 17 2 2 := ⟨RX2, TX2, 3, rfl, by decide, us_2, wd_301⟩
theorem ft_2_2 : nx_FT 2 2 false (.int) := ⟨RX2, TX2, 3, tyX2, rfl, by decide, tyX2_ok, nmX2, rfl, rfl, fun _ => rfl⟩
theorem wd_300 : Cond.fieldLink RX2 21 "LateStamps$Past" "next" "I" ∈ nx_TB := nx_mem 300 (by decide +kernel) (by decide +kernel)
theorem fl_2_21 : nx_FL RX2 21 2 1 := ⟨RX2, TX2, 3, rfl, by decide, us_2, wd_300⟩
theorem cw_2_24 : nx_CW RX2 24 yX7_within cX7_within 2 (some .boolean) 2 := ⟨wd_443, wd_192, ⟨by decide +kernel, by decide +kernel⟩, by decide +kernel, Nat.le_of_ble_eq_true rfl, Or.inr ⟨"LateStamps", List.mem_of_getElem? (i := 444) (by decide +kernel)⟩⟩
theorem cn_2_11 : nx_CN RX2 11 6 [.null] 1 := ⟨RX6, TX6, tyX6, rfl, us_6, tyX6_ok, wd_297, wd_281, wd_196, fun j hj => match j, hj with | 0, _ => rfl | j + 1, h => absurd h (by omega)⟩
theorem cw_2_28 : nx_CW RX2 28 yX6_init cX6_init 1 none 0 := ⟨wd_284, wd_196, ⟨by decide +kernel, by decide +kernel⟩, by decide +kernel, Nat.le_of_ble_eq_true rfl, Or.inr ⟨"LateStamps", List.mem_of_getElem? (i := 445) (by decide +kernel)⟩⟩
theorem cw_2_29 : nx_CW RX2 29 yX6_become cX6_become 2 none 1 := ⟨wd_640, wd_196, ⟨by decide +kernel, by decide +kernel⟩, by decide +kernel, Nat.le_of_ble_eq_true rfl, Or.inr ⟨"LateStamps", List.mem_of_getElem? (i := 446) (by decide +kernel)⟩⟩
theorem ft_2_1 : nx_FT 2 1 false (.int) := ⟨RX2, TX2, 3, tyX2, rfl, by decide, tyX2_ok, nmX2, rfl, rfl, fun _ => rfl⟩
theorem wd_644 : Cond.methodLink RX2 33 Lib.Math.min.name ∈ nx_TB := nx_mem 644 (by decide +kernel) (by decide +kernel)
theorem wd_221 : Cond.methodLink RX5 3 Lib.objectInit ∈ nx_TB := nx_mem 221 (by decide +kernel) (by decide +kernel)
theorem ft_5_0 : nx_FT 5 0 true (.array .int) := ⟨RX5, TX5, 4, tyX5, rfl, by decide, tyX5_ok, nmX5, rfl, rfl, fun _ => rfl⟩
theorem wd_247 : Cond.methodLink RX4 3 Lib.objectInit ∈ nx_TB := nx_mem 247 (by decide +kernel) (by decide +kernel)
theorem ft_4_0 : nx_FT 4 0 true (.array .int) := ⟨RX4, TX4, 4, tyX4, rfl, by decide, tyX4_ok, nmX4, rfl, rfl, fun _ => rfl⟩
theorem ft_4_1 : nx_FT 4 1 true (.array .int) := ⟨RX4, TX4, 4, tyX4, rfl, by decide, tyX4_ok, nmX4, rfl, rfl, fun _ => rfl⟩
theorem wd_270 : Cond.methodLink RX3 3 Lib.objectInit ∈ nx_TB := nx_mem 270 (by decide +kernel) (by decide +kernel)
theorem ft_3_0 : nx_FT 3 0 true (.array .int) := ⟨RX3, TX3, 2, tyX3, rfl, by decide, tyX3_ok, nmX3, rfl, rfl, fun _ => rfl⟩
theorem wd_213 : Cond.methodLink RX7 1 Lib.objectInit ∈ nx_TB := nx_mem 213 (by decide +kernel) (by decide +kernel)
theorem wd_216 : Cond.classLink RX7 7 RX5 ∈ nx_TB := nx_mem 216 (by decide +kernel) (by decide +kernel)
theorem wd_217 : Cond.instantiable RX5 4 ∈ nx_TB := nx_mem 217 (by decide +kernel) (by decide +kernel)
theorem cn_7_7 : nx_CN RX7 7 5 [.null, .int 0, .int 0, .int 0] 4 := ⟨RX5, TX5, tyX5, rfl, us_5, tyX5_ok, wd_216, wd_217, wd_193, fun j hj => match j, hj with | 0, _ => rfl | 1, _ => rfl | 2, _ => rfl | 3, _ => rfl | j + 4, h => absurd h (by omega)⟩
theorem wd_220 : Cond.code yX5_init cX5_init 1 none ∈ nx_TB := nx_mem 220 (by decide +kernel) (by decide +kernel)
theorem cw_7_9 : nx_CW RX7 9 yX5_init cX5_init 1 none 0 := ⟨wd_220, wd_193, ⟨by decide +kernel, by decide +kernel⟩, by decide +kernel, Nat.le_of_ble_eq_true rfl, Or.inr ⟨"LateStamps", List.mem_of_getElem? (i := 27) (by decide +kernel)⟩⟩
theorem wd_219 : Cond.instanceMethod yX5_init ∈ nx_TB := nx_mem 219 (by decide +kernel) (by decide +kernel)
theorem us_7 : ∀ w ∈ u_ws RX7 TX7 12, w ∈ nx_TB := nx_sub [358, 360, 362, 364, 366, 368, 370, 372, 374, 376, 378, 380] (by decide +kernel) (by decide +kernel)
theorem wd_346 : Cond.fieldLink RX7 10 "LateStamps" "tape" "LLateStamps$Tape;" ∈ nx_TB := nx_mem 346 (by decide +kernel) (by decide +kernel)
theorem fl_7_10 : nx_FL RX7 10 7 0 := ⟨RX7, TX7, 12, rfl, by decide, us_7, wd_346⟩
theorem ft_7_0 : nx_FT 7 0 true (.object "LateStamps$Tape") := ⟨RX7, TX7, 12, tyX7, rfl, by decide, tyX7_ok, nmX7, rfl, rfl, fun _ => rfl⟩
theorem wd_242 : Cond.classLink RX7 16 RX4 ∈ nx_TB := nx_mem 242 (by decide +kernel) (by decide +kernel)
theorem wd_243 : Cond.instantiable RX4 4 ∈ nx_TB := nx_mem 243 (by decide +kernel) (by decide +kernel)
theorem cn_7_16 : nx_CN RX7 16 4 [.null, .null, .int 0, .int 0] 4 := ⟨RX4, TX4, tyX4, rfl, us_4, tyX4_ok, wd_242, wd_243, wd_194, fun j hj => match j, hj with | 0, _ => rfl | 1, _ => rfl | 2, _ => rfl | 3, _ => rfl | j + 4, h => absurd h (by omega)⟩
theorem wd_246 : Cond.code yX4_init cX4_init 1 none ∈ nx_TB := nx_mem 246 (by decide +kernel) (by decide +kernel)
theorem cw_7_18 : nx_CW RX7 18 yX4_init cX4_init 1 none 0 := ⟨wd_246, wd_194, ⟨by decide +kernel, by decide +kernel⟩, by decide +kernel, Nat.le_of_ble_eq_true rfl, Or.inr ⟨"LateStamps", List.mem_of_getElem? (i := 53) (by decide +kernel)⟩⟩
theorem wd_245 : Cond.instanceMethod yX4_init ∈ nx_TB := nx_mem 245 (by decide +kernel) (by decide +kernel)
theorem wd_347 : Cond.fieldLink RX7 19 "LateStamps" "storeText" "LLateStamps$StoreText;" ∈ nx_TB := nx_mem 347 (by decide +kernel) (by decide +kernel)
theorem fl_7_19 : nx_FL RX7 19 7 1 := ⟨RX7, TX7, 12, rfl, by decide, us_7, wd_347⟩
theorem ft_7_1 : nx_FT 7 1 true (.object "LateStamps$StoreText") := ⟨RX7, TX7, 12, tyX7, rfl, by decide, tyX7_ok, nmX7, rfl, rfl, fun _ => rfl⟩
theorem wd_264 : Cond.classLink RX7 23 RX3 ∈ nx_TB := nx_mem 264 (by decide +kernel) (by decide +kernel)
theorem wd_348 : Cond.fieldLink RX7 25 "LateStamps" "scripts" "[LLateStamps$Script;" ∈ nx_TB := nx_mem 348 (by decide +kernel) (by decide +kernel)
theorem fl_7_25 : nx_FL RX7 25 7 2 := ⟨RX7, TX7, 12, rfl, by decide, us_7, wd_348⟩
theorem ft_7_2 : nx_FT 7 2 true (.array (.object "LateStamps$Script")) := ⟨RX7, TX7, 12, tyX7, rfl, by decide, tyX7_ok, nmX7, rfl, rfl, fun _ => rfl⟩
theorem wd_266 : Cond.instantiable RX3 2 ∈ nx_TB := nx_mem 266 (by decide +kernel) (by decide +kernel)
theorem cn_7_23 : nx_CN RX7 23 3 [.null, .int 0] 2 := ⟨RX3, TX3, tyX3, rfl, us_3, tyX3_ok, wd_264, wd_266, wd_195, fun j hj => match j, hj with | 0, _ => rfl | 1, _ => rfl | j + 2, h => absurd h (by omega)⟩
theorem wd_269 : Cond.code yX3_init cX3_init 1 none ∈ nx_TB := nx_mem 269 (by decide +kernel) (by decide +kernel)
theorem cw_7_29 : nx_CW RX7 29 yX3_init cX3_init 1 none 0 := ⟨wd_269, wd_195, ⟨by decide +kernel, by decide +kernel⟩, by decide +kernel, Nat.le_of_ble_eq_true rfl, Or.inr ⟨"LateStamps", List.mem_of_getElem? (i := 76) (by decide +kernel)⟩⟩
theorem wd_268 : Cond.instanceMethod yX3_init ∈ nx_TB := nx_mem 268 (by decide +kernel) (by decide +kernel)
theorem wd_349 : Cond.fieldLink RX7 30 "LateStamps" "draft" "LLateStamps$Script;" ∈ nx_TB := nx_mem 349 (by decide +kernel) (by decide +kernel)
theorem fl_7_30 : nx_FL RX7 30 7 3 := ⟨RX7, TX7, 12, rfl, by decide, us_7, wd_349⟩
theorem ft_7_3 : nx_FT 7 3 false (.object "LateStamps$Script") := ⟨RX7, TX7, 12, tyX7, rfl, by decide, tyX7_ok, nmX7, rfl, rfl, fun _ => rfl⟩
theorem wd_280 : Cond.classLink RX7 34 RX6 ∈ nx_TB := nx_mem 280 (by decide +kernel) (by decide +kernel)
theorem cn_7_34 : nx_CN RX7 34 6 [.null] 1 := ⟨RX6, TX6, tyX6, rfl, us_6, tyX6_ok, wd_280, wd_281, wd_196, fun j hj => match j, hj with | 0, _ => rfl | j + 1, h => absurd h (by omega)⟩
theorem cw_7_36 : nx_CW RX7 36 yX6_init cX6_init 1 none 0 := ⟨wd_284, wd_196, ⟨by decide +kernel, by decide +kernel⟩, by decide +kernel, Nat.le_of_ble_eq_true rfl, Or.inr ⟨"LateStamps", List.mem_of_getElem? (i := 91) (by decide +kernel)⟩⟩
theorem wd_351 : Cond.fieldLink RX7 37 "LateStamps" "world" "LLateStamps$World;" ∈ nx_TB := nx_mem 351 (by decide +kernel) (by decide +kernel)
theorem fl_7_37 : nx_FL RX7 37 7 5 := ⟨RX7, TX7, 12, rfl, by decide, us_7, wd_351⟩
theorem ft_7_5 : nx_FT 7 5 true (.object "LateStamps$World") := ⟨RX7, TX7, 12, tyX7, rfl, by decide, tyX7_ok, nmX7, rfl, rfl, fun _ => rfl⟩
theorem wd_291 : Cond.classLink RX7 41 RX2 ∈ nx_TB := nx_mem 291 (by decide +kernel) (by decide +kernel)
theorem wd_292 : Cond.instantiable RX2 3 ∈ nx_TB := nx_mem 292 (by decide +kernel) (by decide +kernel)
theorem wd_197 : Cond.initialized RX2 ∈ nx_TB := nx_mem 197 (by decide +kernel) (by decide +kernel)
theorem cn_7_41 : nx_CN RX7 41 2 [.null, .int 0, .int 0] 3 := ⟨RX2, TX2, tyX2, rfl, us_2, tyX2_ok, wd_291, wd_292, wd_197, fun j hj => match j, hj with | 0, _ => rfl | 1, _ => rfl | 2, _ => rfl | j + 3, h => absurd h (by omega)⟩
theorem wd_295 : Cond.code yX2_init cX2_init 1 none ∈ nx_TB := nx_mem 295 (by decide +kernel) (by decide +kernel)
theorem cw_7_43 : nx_CW RX7 43 yX2_init cX2_init 1 none 0 := ⟨wd_295, wd_197, ⟨by decide +kernel, by decide +kernel⟩, by decide +kernel, Nat.le_of_ble_eq_true rfl, Or.inr ⟨"LateStamps", List.mem_of_getElem? (i := 102) (by decide +kernel)⟩⟩
theorem wd_294 : Cond.instanceMethod yX2_init ∈ nx_TB := nx_mem 294 (by decide +kernel) (by decide +kernel)
theorem wd_352 : Cond.fieldLink RX7 44 "LateStamps" "past" "LLateStamps$Past;" ∈ nx_TB := nx_mem 352 (by decide +kernel) (by decide +kernel)
theorem fl_7_44 : nx_FL RX7 44 7 6 := ⟨RX7, TX7, 12, rfl, by decide, us_7, wd_352⟩
theorem ft_7_6 : nx_FT 7 6 true (.object "LateStamps$Past") := ⟨RX7, TX7, 12, tyX7, rfl, by decide, tyX7_ok, nmX7, rfl, rfl, fun _ => rfl⟩
theorem wd_353 : Cond.fieldLink RX7 48 "LateStamps" "kept" "LLateStamps$World;" ∈ nx_TB := nx_mem 353 (by decide +kernel) (by decide +kernel)
theorem fl_7_48 : nx_FL RX7 48 7 7 := ⟨RX7, TX7, 12, rfl, by decide, us_7, wd_353⟩
theorem ft_7_7 : nx_FT 7 7 true (.object "LateStamps$World") := ⟨RX7, TX7, 12, tyX7, rfl, by decide, tyX7_ok, nmX7, rfl, rfl, fun _ => rfl⟩
theorem wd_310 : Cond.classLink RX7 51 RX0 ∈ nx_TB := nx_mem 310 (by decide +kernel) (by decide +kernel)
theorem wd_311 : Cond.instantiable RX0 6 ∈ nx_TB := nx_mem 311 (by decide +kernel) (by decide +kernel)
theorem cn_7_51 : nx_CN RX7 51 0 [.null, .int 0, .int 0, .int 0, .int 0, .int 0] 6 := ⟨RX0, TX0, tyX0, rfl, us_0, tyX0_ok, wd_310, wd_311, wd_198, fun j hj => match j, hj with | 0, _ => rfl | 1, _ => rfl | 2, _ => rfl | 3, _ => rfl | 4, _ => rfl | 5, _ => rfl | j + 6, h => absurd h (by omega)⟩
theorem wd_314 : Cond.code yX0_init cX0_init 1 none ∈ nx_TB := nx_mem 314 (by decide +kernel) (by decide +kernel)
theorem cw_7_53 : nx_CW RX7 53 yX0_init cX0_init 1 none 0 := ⟨wd_314, wd_198, ⟨by decide +kernel, by decide +kernel⟩, by decide +kernel, Nat.le_of_ble_eq_true rfl, Or.inr ⟨"LateStamps", List.mem_of_getElem? (i := 121) (by decide +kernel)⟩⟩
theorem wd_313 : Cond.instanceMethod yX0_init ∈ nx_TB := nx_mem 313 (by decide +kernel) (by decide +kernel)
theorem wd_355 : Cond.fieldLink RX7 54 "LateStamps" "apart" "LLateStamps$Apart;" ∈ nx_TB := nx_mem 355 (by decide +kernel) (by decide +kernel)
theorem fl_7_54 : nx_FL RX7 54 7 9 := ⟨RX7, TX7, 12, rfl, by decide, us_7, wd_355⟩
theorem ft_7_9 : nx_FT 7 9 true (.object "LateStamps$Apart") := ⟨RX7, TX7, 12, tyX7, rfl, by decide, tyX7_ok, nmX7, rfl, rfl, fun _ => rfl⟩
theorem wd_336 : Cond.classLink RX7 58 RX1 ∈ nx_TB := nx_mem 336 (by decide +kernel) (by decide +kernel)
theorem wd_337 : Cond.instantiable RX1 1 ∈ nx_TB := nx_mem 337 (by decide +kernel) (by decide +kernel)
theorem wd_199 : Cond.initialized RX1 ∈ nx_TB := nx_mem 199 (by decide +kernel) (by decide +kernel)
theorem cn_7_58 : nx_CN RX7 58 1 [.long 0] 1 := ⟨RX1, TX1, tyX1, rfl, us_1, tyX1_ok, wd_336, wd_337, wd_199, fun j hj => match j, hj with | 0, _ => rfl | j + 1, h => absurd h (by omega)⟩
theorem wd_340 : Cond.code yX1_init cX1_init 1 none ∈ nx_TB := nx_mem 340 (by decide +kernel) (by decide +kernel)
theorem cw_7_60 : nx_CW RX7 60 yX1_init cX1_init 1 none 0 := ⟨wd_340, wd_199, ⟨by decide +kernel, by decide +kernel⟩, by decide +kernel, Nat.le_of_ble_eq_true rfl, Or.inr ⟨"LateStamps", List.mem_of_getElem? (i := 147) (by decide +kernel)⟩⟩
theorem wd_339 : Cond.instanceMethod yX1_init ∈ nx_TB := nx_mem 339 (by decide +kernel) (by decide +kernel)
theorem wd_356 : Cond.fieldLink RX7 61 "LateStamps" "draws" "LLateStamps$Draws;" ∈ nx_TB := nx_mem 356 (by decide +kernel) (by decide +kernel)
theorem fl_7_61 : nx_FL RX7 61 7 10 := ⟨RX7, TX7, 12, rfl, by decide, us_7, wd_356⟩
theorem ft_7_10 : nx_FT 7 10 true (.object "LateStamps$Draws") := ⟨RX7, TX7, 12, tyX7, rfl, by decide, tyX7_ok, nmX7, rfl, rfl, fun _ => rfl⟩
theorem wd_357 : Cond.fieldLink RX7 65 "LateStamps" "refused" "[I" ∈ nx_TB := nx_mem 357 (by decide +kernel) (by decide +kernel)
theorem fl_7_65 : nx_FL RX7 65 7 11 := ⟨RX7, TX7, 12, rfl, by decide, us_7, wd_357⟩
theorem ft_7_11 : nx_FT 7 11 true (.array .int) := ⟨RX7, TX7, 12, tyX7, rfl, by decide, tyX7_ok, nmX7, rfl, rfl, fun _ => rfl⟩
theorem wd_389 : Cond.code yX5_bytesIn cX5_bytesIn 3 (some .int) ∈ nx_TB := nx_mem 389 (by decide +kernel) (by decide +kernel)
theorem cw_7_69 : nx_CW RX7 69 yX5_bytesIn cX5_bytesIn 3 (some .int) 1 := ⟨wd_389, wd_193, ⟨by decide +kernel, by decide +kernel⟩, by decide +kernel, Nat.le_of_ble_eq_true rfl, Or.inr ⟨"LateStamps", List.mem_of_getElem? (i := 196) (by decide +kernel)⟩⟩
theorem wd_388 : Cond.static yX5_bytesIn ∈ nx_TB := nx_mem 388 (by decide +kernel) (by decide +kernel)
theorem fl_7_73 : nx_FN RX7 73 5 1 := ⟨RX5, TX5, 4, "LateStamps", rfl, by decide, us_5, List.mem_of_getElem? (i := 32) (by decide +kernel)⟩
theorem wd_393 : Cond.code yX5_take cX5_take 4 none ∈ nx_TB := nx_mem 393 (by decide +kernel) (by decide +kernel)
theorem cw_7_77 : nx_CW RX7 77 yX5_take cX5_take 4 none 1 := ⟨wd_393, wd_193, ⟨by decide +kernel, by decide +kernel⟩, by decide +kernel, Nat.le_of_ble_eq_true rfl, Or.inr ⟨"LateStamps", List.mem_of_getElem? (i := 199) (by decide +kernel)⟩⟩
theorem wd_392 : Cond.instanceMethod yX5_take ∈ nx_TB := nx_mem 392 (by decide +kernel) (by decide +kernel)
theorem wd_0 : Cond.selects RX5 yX5_take yX5_take ∈ nx_TB := nx_mem 0 (by decide +kernel) (by decide +kernel)
theorem cv_X5_take : nx_CV yX5_take 5 := ⟨wd_392, wd_0, TX5, 4, rfl⟩
theorem wd_464 : Cond.code yX3_faultOf cX3_faultOf 4 (some .int) ∈ nx_TB := nx_mem 464 (by decide +kernel) (by decide +kernel)
theorem cw_7_85 : nx_CW RX7 85 yX3_faultOf cX3_faultOf 4 (some .int) 1 := ⟨wd_464, wd_195, ⟨by decide +kernel, by decide +kernel⟩, by decide +kernel, Nat.le_of_ble_eq_true rfl, Or.inr ⟨"LateStamps", List.mem_of_getElem? (i := 270) (by decide +kernel)⟩⟩
theorem wd_463 : Cond.instanceMethod yX3_faultOf ∈ nx_TB := nx_mem 463 (by decide +kernel) (by decide +kernel)
theorem wd_12 : Cond.selects RX3 yX3_faultOf yX3_faultOf ∈ nx_TB := nx_mem 12 (by decide +kernel) (by decide +kernel)
theorem cv_X3_faultOf : nx_CV yX3_faultOf 3 := ⟨wd_463, wd_12, TX3, 2, rfl⟩
theorem wd_405 : Cond.code yX4_faultOf cX4_faultOf 4 (some .int) ∈ nx_TB := nx_mem 405 (by decide +kernel) (by decide +kernel)
theorem cw_7_81 : nx_CW RX7 81 yX4_faultOf cX4_faultOf 4 (some .int) 1 := ⟨wd_405, wd_194, ⟨by decide +kernel, by decide +kernel⟩, by decide +kernel, Nat.le_of_ble_eq_true rfl, Or.inr ⟨"LateStamps", List.mem_of_getElem? (i := 211) (by decide +kernel)⟩⟩
theorem wd_404 : Cond.instanceMethod yX4_faultOf ∈ nx_TB := nx_mem 404 (by decide +kernel) (by decide +kernel)
theorem wd_1 : Cond.selects RX4 yX4_faultOf yX4_faultOf ∈ nx_TB := nx_mem 1 (by decide +kernel) (by decide +kernel)
theorem cv_X4_faultOf : nx_CV yX4_faultOf 4 := ⟨wd_404, wd_1, TX4, 4, rfl⟩
theorem fl_6_17 : nx_FN RX6 17 4 0 := ⟨RX4, TX4, 4, "LateStamps", rfl, by decide, us_4, List.mem_of_getElem? (i := 58) (by decide +kernel)⟩
theorem fl_6_20 : nx_FN RX6 20 4 2 := ⟨RX4, TX4, 4, "LateStamps", rfl, by decide, us_4, List.mem_of_getElem? (i := 62) (by decide +kernel)⟩
theorem fl_6_24 : nx_FN RX6 24 4 1 := ⟨RX4, TX4, 4, "LateStamps", rfl, by decide, us_4, List.mem_of_getElem? (i := 60) (by decide +kernel)⟩
theorem wd_493 : Cond.code yX6_begin cX6_begin 4 none ∈ nx_TB := nx_mem 493 (by decide +kernel) (by decide +kernel)
theorem cw_7_93 : nx_CW RX7 93 yX6_begin cX6_begin 4 none 1 := ⟨wd_493, wd_196, ⟨by decide +kernel, by decide +kernel⟩, by decide +kernel, Nat.le_of_ble_eq_true rfl, Or.inr ⟨"LateStamps", List.mem_of_getElem? (i := 299) (by decide +kernel)⟩⟩
theorem wd_492 : Cond.instanceMethod yX6_begin ∈ nx_TB := nx_mem 492 (by decide +kernel) (by decide +kernel)
theorem wd_16 : Cond.selects RX6 yX6_begin yX6_begin ∈ nx_TB := nx_mem 16 (by decide +kernel) (by decide +kernel)
theorem cv_X6_begin : nx_CV yX6_begin 6 := ⟨wd_492, wd_16, TX6, 1, rfl⟩
theorem wd_497 : Cond.code yX2_forget cX2_forget 1 none ∈ nx_TB := nx_mem 497 (by decide +kernel) (by decide +kernel)
theorem cw_7_97 : nx_CW RX7 97 yX2_forget cX2_forget 1 none 0 := ⟨wd_497, wd_197, ⟨by decide +kernel, by decide +kernel⟩, by decide +kernel, Nat.le_of_ble_eq_true rfl, Or.inr ⟨"LateStamps", List.mem_of_getElem? (i := 303) (by decide +kernel)⟩⟩
theorem wd_496 : Cond.instanceMethod yX2_forget ∈ nx_TB := nx_mem 496 (by decide +kernel) (by decide +kernel)
theorem wd_17 : Cond.selects RX2 yX2_forget yX2_forget ∈ nx_TB := nx_mem 17 (by decide +kernel) (by decide +kernel)
theorem cv_X2_forget : nx_CV yX2_forget 2 := ⟨wd_496, wd_17, TX2, 3, rfl⟩
theorem wd_354 : Cond.fieldLink RX7 100 "LateStamps" "hasImage" "Z" ∈ nx_TB := nx_mem 354 (by decide +kernel) (by decide +kernel)
theorem fl_7_100 : nx_FL RX7 100 7 8 := ⟨RX7, TX7, 12, rfl, by decide, us_7, wd_354⟩
theorem ft_7_8 : nx_FT 7 8 false (.boolean) := ⟨RX7, TX7, 12, tyX7, rfl, by decide, tyX7_ok, nmX7, rfl, rfl, fun _ => rfl⟩
theorem wd_501 : Cond.code yX6_keys cX6_keys 1 (some .int) ∈ nx_TB := nx_mem 501 (by decide +kernel) (by decide +kernel)
theorem cw_7_104 : nx_CW RX7 104 yX6_keys cX6_keys 1 (some .int) 0 := ⟨wd_501, wd_196, ⟨by decide +kernel, by decide +kernel⟩, by decide +kernel, Nat.le_of_ble_eq_true rfl, Or.inr ⟨"LateStamps", List.mem_of_getElem? (i := 307) (by decide +kernel)⟩⟩
theorem wd_500 : Cond.instanceMethod yX6_keys ∈ nx_TB := nx_mem 500 (by decide +kernel) (by decide +kernel)
theorem wd_18 : Cond.selects RX6 yX6_keys yX6_keys ∈ nx_TB := nx_mem 18 (by decide +kernel) (by decide +kernel)
theorem cv_X6_keys : nx_CV yX6_keys 6 := ⟨wd_500, wd_18, TX6, 1, rfl⟩
theorem wd_350 : Cond.fieldLink RX7 107 "LateStamps" "scriptCount" "I" ∈ nx_TB := nx_mem 350 (by decide +kernel) (by decide +kernel)
theorem fl_7_107 : nx_FL RX7 107 7 4 := ⟨RX7, TX7, 12, rfl, by decide, us_7, wd_350⟩
theorem ft_7_4 : nx_FT 7 4 false (.int) := ⟨RX7, TX7, 12, tyX7, rfl, by decide, tyX7_ok, nmX7, rfl, rfl, fun _ => rfl⟩
theorem wd_505 : Cond.code yX7_takeScript cX7_takeScript 1 (some .int) ∈ nx_TB := nx_mem 505 (by decide +kernel) (by decide +kernel)
theorem wd_502 : Cond.methodLink RX7 90 yX7_takeScript ∈ nx_TB := nx_mem 502 (by decide +kernel) (by decide +kernel)
theorem cw_7_90 : nx_CW RX7 90 yX7_takeScript cX7_takeScript 1 (some .int) 0 := ⟨wd_505, wd_192, ⟨by decide +kernel, by decide +kernel⟩, by decide +kernel, Nat.le_of_ble_eq_true rfl, Or.inl wd_502⟩
theorem wd_504 : Cond.instanceMethod yX7_takeScript ∈ nx_TB := nx_mem 504 (by decide +kernel) (by decide +kernel)
theorem wd_19 : Cond.selects RX7 yX7_takeScript yX7_takeScript ∈ nx_TB := nx_mem 19 (by decide +kernel) (by decide +kernel)
theorem cv_X7_takeScript : nx_CV yX7_takeScript 7 := ⟨wd_504, wd_19, TX7, 12, rfl⟩
theorem wd_489 : Cond.code yX7_takeStore cX7_takeStore 1 (some .int) ∈ nx_TB := nx_mem 489 (by decide +kernel) (by decide +kernel)
theorem wd_486 : Cond.methodLink RX7 86 yX7_takeStore ∈ nx_TB := nx_mem 486 (by decide +kernel) (by decide +kernel)
theorem cw_7_86 : nx_CW RX7 86 yX7_takeStore cX7_takeStore 1 (some .int) 0 := ⟨wd_489, wd_192, ⟨by decide +kernel, by decide +kernel⟩, by decide +kernel, Nat.le_of_ble_eq_true rfl, Or.inl wd_486⟩
theorem wd_488 : Cond.instanceMethod yX7_takeStore ∈ nx_TB := nx_mem 488 (by decide +kernel) (by decide +kernel)
theorem wd_15 : Cond.selects RX7 yX7_takeStore yX7_takeStore ∈ nx_TB := nx_mem 15 (by decide +kernel) (by decide +kernel)
theorem cv_X7_takeStore : nx_CV yX7_takeStore 7 := ⟨wd_488, wd_15, TX7, 12, rfl⟩
theorem cw_7_110 : nx_CW RX7 110 yX6_hasStore cX6_hasStore 1 (some .boolean) 0 := ⟨wd_513, wd_196, ⟨by decide +kernel, by decide +kernel⟩, by decide +kernel, Nat.le_of_ble_eq_true rfl, Or.inr ⟨"LateStamps", List.mem_of_getElem? (i := 319) (by decide +kernel)⟩⟩
theorem wd_514 : Cond.methodLink RX7 114 yX7_within ∈ nx_TB := nx_mem 514 (by decide +kernel) (by decide +kernel)
theorem cw_7_114 : nx_CW RX7 114 yX7_within cX7_within 2 (some .boolean) 2 := ⟨wd_443, wd_192, ⟨by decide +kernel, by decide +kernel⟩, by decide +kernel, Nat.le_of_ble_eq_true rfl, Or.inl wd_514⟩
theorem wd_518 : Cond.code yX6_ruleOf cX6_ruleOf 2 (some .int) ∈ nx_TB := nx_mem 518 (by decide +kernel) (by decide +kernel)
theorem cw_7_118 : nx_CW RX7 118 yX6_ruleOf cX6_ruleOf 2 (some .int) 1 := ⟨wd_518, wd_196, ⟨by decide +kernel, by decide +kernel⟩, by decide +kernel, Nat.le_of_ble_eq_true rfl, Or.inr ⟨"LateStamps", List.mem_of_getElem? (i := 324) (by decide +kernel)⟩⟩
theorem wd_517 : Cond.instanceMethod yX6_ruleOf ∈ nx_TB := nx_mem 517 (by decide +kernel) (by decide +kernel)
theorem wd_21 : Cond.selects RX6 yX6_ruleOf yX6_ruleOf ∈ nx_TB := nx_mem 21 (by decide +kernel) (by decide +kernel)
theorem cv_X6_ruleOf : nx_CV yX6_ruleOf 6 := ⟨wd_517, wd_21, TX6, 1, rfl⟩
theorem cw_7_137 : nx_CW RX7 137 yX6_hasKey cX6_hasKey 2 (some .boolean) 1 := ⟨wd_526, wd_196, ⟨by decide +kernel, by decide +kernel⟩, by decide +kernel, Nat.le_of_ble_eq_true rfl, Or.inr ⟨"LateStamps", List.mem_of_getElem? (i := 332) (by decide +kernel)⟩⟩
theorem cw_7_128 : nx_CW RX7 128 yX6_stateOf cX6_stateOf 2 (some .int) 1 := ⟨wd_531, wd_196, ⟨by decide +kernel, by decide +kernel⟩, by decide +kernel, Nat.le_of_ble_eq_true rfl, Or.inr ⟨"LateStamps", List.mem_of_getElem? (i := 337) (by decide +kernel)⟩⟩
theorem wd_535 : Cond.code yX6_lastRead cX6_lastRead 3 (some .int) ∈ nx_TB := nx_mem 535 (by decide +kernel) (by decide +kernel)
theorem cw_7_141 : nx_CW RX7 141 yX6_lastRead cX6_lastRead 3 (some .int) 2 := ⟨wd_535, wd_196, ⟨by decide +kernel, by decide +kernel⟩, by decide +kernel, Nat.le_of_ble_eq_true rfl, Or.inr ⟨"LateStamps", List.mem_of_getElem? (i := 341) (by decide +kernel)⟩⟩
theorem wd_534 : Cond.instanceMethod yX6_lastRead ∈ nx_TB := nx_mem 534 (by decide +kernel) (by decide +kernel)
theorem wd_24 : Cond.selects RX6 yX6_lastRead yX6_lastRead ∈ nx_TB := nx_mem 24 (by decide +kernel) (by decide +kernel)
theorem cv_X6_lastRead : nx_CV yX6_lastRead 6 := ⟨wd_534, wd_24, TX6, 1, rfl⟩
theorem wd_544 : Cond.constant RX7 147 (-1000000) ∈ nx_TB := nx_mem 544 (by decide +kernel) (by decide +kernel)
theorem wd_543 : Cond.code yX6_deedsOf cX6_deedsOf 2 (some .int) ∈ nx_TB := nx_mem 543 (by decide +kernel) (by decide +kernel)
theorem cw_7_144 : nx_CW RX7 144 yX6_deedsOf cX6_deedsOf 2 (some .int) 1 := ⟨wd_543, wd_196, ⟨by decide +kernel, by decide +kernel⟩, by decide +kernel, Nat.le_of_ble_eq_true rfl, Or.inr ⟨"LateStamps", List.mem_of_getElem? (i := 349) (by decide +kernel)⟩⟩
theorem wd_542 : Cond.instanceMethod yX6_deedsOf ∈ nx_TB := nx_mem 542 (by decide +kernel) (by decide +kernel)
theorem wd_25 : Cond.selects RX6 yX6_deedsOf yX6_deedsOf ∈ nx_TB := nx_mem 25 (by decide +kernel) (by decide +kernel)
theorem cv_X6_deedsOf : nx_CV yX6_deedsOf 6 := ⟨wd_542, wd_25, TX6, 1, rfl⟩
theorem cw_7_148 : nx_CW RX7 148 yX6_deedPart cX6_deedPart 5 (some .int) 3 := ⟨wd_548, wd_196, ⟨by decide +kernel, by decide +kernel⟩, by decide +kernel, Nat.le_of_ble_eq_true rfl, Or.inr ⟨"LateStamps", List.mem_of_getElem? (i := 354) (by decide +kernel)⟩⟩
theorem wd_556 : Cond.code yX6_versionsOf cX6_versionsOf 2 (some .int) ∈ nx_TB := nx_mem 556 (by decide +kernel) (by decide +kernel)
theorem cw_7_152 : nx_CW RX7 152 yX6_versionsOf cX6_versionsOf 2 (some .int) 1 := ⟨wd_556, wd_196, ⟨by decide +kernel, by decide +kernel⟩, by decide +kernel, Nat.le_of_ble_eq_true rfl, Or.inr ⟨"LateStamps", List.mem_of_getElem? (i := 362) (by decide +kernel)⟩⟩
theorem wd_555 : Cond.instanceMethod yX6_versionsOf ∈ nx_TB := nx_mem 555 (by decide +kernel) (by decide +kernel)
theorem wd_27 : Cond.selects RX6 yX6_versionsOf yX6_versionsOf ∈ nx_TB := nx_mem 27 (by decide +kernel) (by decide +kernel)
theorem cv_X6_versionsOf : nx_CV yX6_versionsOf 6 := ⟨wd_555, wd_27, TX6, 1, rfl⟩
theorem wd_564 : Cond.code yX6_versionPart cX6_versionPart 4 (some .int) ∈ nx_TB := nx_mem 564 (by decide +kernel) (by decide +kernel)
theorem cw_7_155 : nx_CW RX7 155 yX6_versionPart cX6_versionPart 4 (some .int) 3 := ⟨wd_564, wd_196, ⟨by decide +kernel, by decide +kernel⟩, by decide +kernel, Nat.le_of_ble_eq_true rfl, Or.inr ⟨"LateStamps", List.mem_of_getElem? (i := 370) (by decide +kernel)⟩⟩
theorem wd_563 : Cond.instanceMethod yX6_versionPart ∈ nx_TB := nx_mem 563 (by decide +kernel) (by decide +kernel)
theorem wd_28 : Cond.selects RX6 yX6_versionPart yX6_versionPart ∈ nx_TB := nx_mem 28 (by decide +kernel) (by decide +kernel)
theorem cv_X6_versionPart : nx_CV yX6_versionPart 6 := ⟨wd_563, wd_28, TX6, 1, rfl⟩
theorem cw_7_173 : nx_CW RX7 173 yX6_refusal cX6_refusal 5 (some .int) 4 := ⟨wd_580, wd_196, ⟨by decide +kernel, by decide +kernel⟩, by decide +kernel, Nat.le_of_ble_eq_true rfl, Or.inr ⟨"LateStamps", List.mem_of_getElem? (i := 386) (by decide +kernel)⟩⟩
theorem wd_576 : Cond.code yX7_isRefused cX7_isRefused 6 (some .boolean) ∈ nx_TB := nx_mem 576 (by decide +kernel) (by decide +kernel)
theorem wd_573 : Cond.methodLink RX7 162 yX7_isRefused ∈ nx_TB := nx_mem 573 (by decide +kernel) (by decide +kernel)
theorem cw_7_162 : nx_CW RX7 162 yX7_isRefused cX7_isRefused 6 (some .boolean) 4 := ⟨wd_576, wd_192, ⟨by decide +kernel, by decide +kernel⟩, by decide +kernel, Nat.le_of_ble_eq_true rfl, Or.inl wd_573⟩
theorem wd_575 : Cond.instanceMethod yX7_isRefused ∈ nx_TB := nx_mem 575 (by decide +kernel) (by decide +kernel)
theorem wd_30 : Cond.selects RX7 yX7_isRefused yX7_isRefused ∈ nx_TB := nx_mem 30 (by decide +kernel) (by decide +kernel)
theorem cv_X7_isRefused : nx_CV yX7_isRefused 7 := ⟨wd_575, wd_30, TX7, 12, rfl⟩
theorem wd_634 : Cond.code yX2_keep cX2_keep 2 none ∈ nx_TB := nx_mem 634 (by decide +kernel) (by decide +kernel)
theorem cw_7_166 : nx_CW RX7 166 yX2_keep cX2_keep 2 none 1 := ⟨wd_634, wd_197, ⟨by decide +kernel, by decide +kernel⟩, by decide +kernel, Nat.le_of_ble_eq_true rfl, Or.inr ⟨"LateStamps", List.mem_of_getElem? (i := 440) (by decide +kernel)⟩⟩
theorem wd_633 : Cond.instanceMethod yX2_keep ∈ nx_TB := nx_mem 633 (by decide +kernel) (by decide +kernel)
theorem wd_44 : Cond.selects RX2 yX2_keep yX2_keep ∈ nx_TB := nx_mem 44 (by decide +kernel) (by decide +kernel)
theorem cv_X2_keep : nx_CV yX2_keep 2 := ⟨wd_633, wd_44, TX2, 3, rfl⟩
theorem cw_7_176 : nx_CW RX7 176 yX6_act cX6_act 5 (some .int) 4 := ⟨wd_650, wd_196, ⟨by decide +kernel, by decide +kernel⟩, by decide +kernel, Nat.le_of_ble_eq_true rfl, Or.inr ⟨"LateStamps", List.mem_of_getElem? (i := 456) (by decide +kernel)⟩⟩
theorem wd_572 : Cond.code yX7_tried cX7_tried 5 (some .int) ∈ nx_TB := nx_mem 572 (by decide +kernel) (by decide +kernel)
theorem wd_569 : Cond.methodLink RX7 158 yX7_tried ∈ nx_TB := nx_mem 569 (by decide +kernel) (by decide +kernel)
theorem cw_7_158 : nx_CW RX7 158 yX7_tried cX7_tried 5 (some .int) 4 := ⟨wd_572, wd_192, ⟨by decide +kernel, by decide +kernel⟩, by decide +kernel, Nat.le_of_ble_eq_true rfl, Or.inl wd_569⟩
theorem wd_571 : Cond.instanceMethod yX7_tried ∈ nx_TB := nx_mem 571 (by decide +kernel) (by decide +kernel)
theorem wd_29 : Cond.selects RX7 yX7_tried yX7_tried ∈ nx_TB := nx_mem 29 (by decide +kernel) (by decide +kernel)
theorem cv_X7_tried : nx_CV yX7_tried 7 := ⟨wd_571, wd_29, TX7, 12, rfl⟩
theorem cw_7_170 : nx_CW RX7 170 yX6_redoAll cX6_redoAll 5 (some .int) 1 := ⟨wd_780, wd_196, ⟨by decide +kernel, by decide +kernel⟩, by decide +kernel, Nat.le_of_ble_eq_true rfl, Or.inr ⟨"LateStamps", List.mem_of_getElem? (i := 586) (by decide +kernel)⟩⟩
theorem wd_805 : Cond.code yX1_next cX1_next 2 (some .int) ∈ nx_TB := nx_mem 805 (by decide +kernel) (by decide +kernel)
theorem cw_7_188 : nx_CW RX7 188 yX1_next cX1_next 2 (some .int) 1 := ⟨wd_805, wd_199, ⟨by decide +kernel, by decide +kernel⟩, by decide +kernel, Nat.le_of_ble_eq_true rfl, Or.inr ⟨"LateStamps", List.mem_of_getElem? (i := 611) (by decide +kernel)⟩⟩
theorem wd_804 : Cond.instanceMethod yX1_next ∈ nx_TB := nx_mem 804 (by decide +kernel) (by decide +kernel)
theorem wd_74 : Cond.selects RX1 yX1_next yX1_next ∈ nx_TB := nx_mem 74 (by decide +kernel) (by decide +kernel)
theorem cv_X1_next : nx_CV yX1_next 1 := ⟨wd_804, wd_74, TX1, 1, rfl⟩
theorem wd_811 : Cond.code yX7_triedQuietly cX7_triedQuietly 5 (some .boolean) ∈ nx_TB := nx_mem 811 (by decide +kernel) (by decide +kernel)
theorem wd_808 : Cond.methodLink RX7 191 yX7_triedQuietly ∈ nx_TB := nx_mem 808 (by decide +kernel) (by decide +kernel)
theorem cw_7_191 : nx_CW RX7 191 yX7_triedQuietly cX7_triedQuietly 5 (some .boolean) 4 := ⟨wd_811, wd_192, ⟨by decide +kernel, by decide +kernel⟩, by decide +kernel, Nat.le_of_ble_eq_true rfl, Or.inl wd_808⟩
theorem wd_810 : Cond.instanceMethod yX7_triedQuietly ∈ nx_TB := nx_mem 810 (by decide +kernel) (by decide +kernel)
theorem wd_75 : Cond.selects RX7 yX7_triedQuietly yX7_triedQuietly ∈ nx_TB := nx_mem 75 (by decide +kernel) (by decide +kernel)
theorem cv_X7_triedQuietly : nx_CV yX7_triedQuietly 7 := ⟨wd_810, wd_75, TX7, 12, rfl⟩
theorem wd_797 : Cond.code yX1_begin cX1_begin 3 none ∈ nx_TB := nx_mem 797 (by decide +kernel) (by decide +kernel)
theorem cw_7_179 : nx_CW RX7 179 yX1_begin cX1_begin 3 none 1 := ⟨wd_797, wd_199, ⟨by decide +kernel, by decide +kernel⟩, by decide +kernel, Nat.le_of_ble_eq_true rfl, Or.inr ⟨"LateStamps", List.mem_of_getElem? (i := 603) (by decide +kernel)⟩⟩
theorem wd_796 : Cond.instanceMethod yX1_begin ∈ nx_TB := nx_mem 796 (by decide +kernel) (by decide +kernel)
theorem wd_72 : Cond.selects RX1 yX1_begin yX1_begin ∈ nx_TB := nx_mem 72 (by decide +kernel) (by decide +kernel)
theorem cv_X1_begin : nx_CV yX1_begin 1 := ⟨wd_796, wd_72, TX1, 1, rfl⟩
theorem wd_801 : Cond.code yX7_oneYear cX7_oneYear 4 none ∈ nx_TB := nx_mem 801 (by decide +kernel) (by decide +kernel)
theorem wd_798 : Cond.methodLink RX7 182 yX7_oneYear ∈ nx_TB := nx_mem 798 (by decide +kernel) (by decide +kernel)
theorem cw_7_182 : nx_CW RX7 182 yX7_oneYear cX7_oneYear 4 none 0 := ⟨wd_801, wd_192, ⟨by decide +kernel, by decide +kernel⟩, by decide +kernel, Nat.le_of_ble_eq_true rfl, Or.inl wd_798⟩
theorem wd_800 : Cond.instanceMethod yX7_oneYear ∈ nx_TB := nx_mem 800 (by decide +kernel) (by decide +kernel)
theorem wd_73 : Cond.selects RX7 yX7_oneYear yX7_oneYear ∈ nx_TB := nx_mem 73 (by decide +kernel) (by decide +kernel)
theorem cv_X7_oneYear : nx_CV yX7_oneYear 7 := ⟨wd_800, wd_73, TX7, 12, rfl⟩
theorem wd_815 : Cond.code yX6_clock cX6_clock 1 (some .int) ∈ nx_TB := nx_mem 815 (by decide +kernel) (by decide +kernel)
theorem cw_7_185 : nx_CW RX7 185 yX6_clock cX6_clock 1 (some .int) 0 := ⟨wd_815, wd_196, ⟨by decide +kernel, by decide +kernel⟩, by decide +kernel, Nat.le_of_ble_eq_true rfl, Or.inr ⟨"LateStamps", List.mem_of_getElem? (i := 621) (by decide +kernel)⟩⟩
theorem wd_814 : Cond.instanceMethod yX6_clock ∈ nx_TB := nx_mem 814 (by decide +kernel) (by decide +kernel)
theorem wd_76 : Cond.selects RX6 yX6_clock yX6_clock ∈ nx_TB := nx_mem 76 (by decide +kernel) (by decide +kernel)
theorem cv_X6_clock : nx_CV yX6_clock 6 := ⟨wd_814, wd_76, TX6, 1, rfl⟩
theorem wd_827 : Cond.code yX2_bringBack cX2_bringBack 3 (some .int) ∈ nx_TB := nx_mem 827 (by decide +kernel) (by decide +kernel)
theorem cw_7_194 : nx_CW RX7 194 yX2_bringBack cX2_bringBack 3 (some .int) 1 := ⟨wd_827, wd_197, ⟨by decide +kernel, by decide +kernel⟩, by decide +kernel, Nat.le_of_ble_eq_true rfl, Or.inr ⟨"LateStamps", List.mem_of_getElem? (i := 633) (by decide +kernel)⟩⟩
theorem wd_826 : Cond.instanceMethod yX2_bringBack ∈ nx_TB := nx_mem 826 (by decide +kernel) (by decide +kernel)
theorem wd_77 : Cond.selects RX2 yX2_bringBack yX2_bringBack ∈ nx_TB := nx_mem 77 (by decide +kernel) (by decide +kernel)
theorem cv_X2_bringBack : nx_CV yX2_bringBack 2 := ⟨wd_826, wd_77, TX2, 3, rfl⟩
theorem wd_835 : Cond.code yX6_logLength cX6_logLength 1 (some .int) ∈ nx_TB := nx_mem 835 (by decide +kernel) (by decide +kernel)
theorem cw_7_198 : nx_CW RX7 198 yX6_logLength cX6_logLength 1 (some .int) 0 := ⟨wd_835, wd_196, ⟨by decide +kernel, by decide +kernel⟩, by decide +kernel, Nat.le_of_ble_eq_true rfl, Or.inr ⟨"LateStamps", List.mem_of_getElem? (i := 641) (by decide +kernel)⟩⟩
theorem wd_834 : Cond.instanceMethod yX6_logLength ∈ nx_TB := nx_mem 834 (by decide +kernel) (by decide +kernel)
theorem wd_78 : Cond.selects RX6 yX6_logLength yX6_logLength ∈ nx_TB := nx_mem 78 (by decide +kernel) (by decide +kernel)
theorem cv_X6_logLength : nx_CV yX6_logLength 6 := ⟨wd_834, wd_78, TX6, 1, rfl⟩
theorem wd_839 : Cond.code yX6_logPart cX6_logPart 5 (some .int) ∈ nx_TB := nx_mem 839 (by decide +kernel) (by decide +kernel)
theorem cw_7_201 : nx_CW RX7 201 yX6_logPart cX6_logPart 5 (some .int) 2 := ⟨wd_839, wd_196, ⟨by decide +kernel, by decide +kernel⟩, by decide +kernel, Nat.le_of_ble_eq_true rfl, Or.inr ⟨"LateStamps", List.mem_of_getElem? (i := 645) (by decide +kernel)⟩⟩
theorem wd_838 : Cond.instanceMethod yX6_logPart ∈ nx_TB := nx_mem 838 (by decide +kernel) (by decide +kernel)
theorem wd_79 : Cond.selects RX6 yX6_logPart yX6_logPart ∈ nx_TB := nx_mem 79 (by decide +kernel) (by decide +kernel)
theorem cv_X6_logPart : nx_CV yX6_logPart 6 := ⟨wd_838, wd_79, TX6, 1, rfl⟩
theorem wd_852 : Cond.code yX6_stampOf cX6_stampOf 2 (some .int) ∈ nx_TB := nx_mem 852 (by decide +kernel) (by decide +kernel)
theorem cw_7_207 : nx_CW RX7 207 yX6_stampOf cX6_stampOf 2 (some .int) 1 := ⟨wd_852, wd_196, ⟨by decide +kernel, by decide +kernel⟩, by decide +kernel, Nat.le_of_ble_eq_true rfl, Or.inr ⟨"LateStamps", List.mem_of_getElem? (i := 658) (by decide +kernel)⟩⟩
theorem wd_851 : Cond.instanceMethod yX6_stampOf ∈ nx_TB := nx_mem 851 (by decide +kernel) (by decide +kernel)
theorem wd_81 : Cond.selects RX6 yX6_stampOf yX6_stampOf ∈ nx_TB := nx_mem 81 (by decide +kernel) (by decide +kernel)
theorem cv_X6_stampOf : nx_CV yX6_stampOf 6 := ⟨wd_851, wd_81, TX6, 1, rfl⟩
theorem cw_7_210 : nx_CW RX7 210 yX6_isLate cX6_isLate 5 (some .boolean) 2 := ⟨wd_626, wd_196, ⟨by decide +kernel, by decide +kernel⟩, by decide +kernel, Nat.le_of_ble_eq_true rfl, Or.inr ⟨"LateStamps", List.mem_of_getElem? (i := 662) (by decide +kernel)⟩⟩
theorem wd_848 : Cond.code yX6_markToRead cX6_markToRead 4 (some .int) ∈ nx_TB := nx_mem 848 (by decide +kernel) (by decide +kernel)
theorem cw_7_204 : nx_CW RX7 204 yX6_markToRead cX6_markToRead 4 (some .int) 2 := ⟨wd_848, wd_196, ⟨by decide +kernel, by decide +kernel⟩, by decide +kernel, Nat.le_of_ble_eq_true rfl, Or.inr ⟨"LateStamps", List.mem_of_getElem? (i := 654) (by decide +kernel)⟩⟩
theorem wd_847 : Cond.instanceMethod yX6_markToRead ∈ nx_TB := nx_mem 847 (by decide +kernel) (by decide +kernel)
theorem wd_80 : Cond.selects RX6 yX6_markToRead yX6_markToRead ∈ nx_TB := nx_mem 80 (by decide +kernel) (by decide +kernel)
theorem cv_X6_markToRead : nx_CV yX6_markToRead 6 := ⟨wd_847, wd_80, TX6, 1, rfl⟩
theorem wd_861 : Cond.code yX6_timely cX6_timely 9 (some .int) ∈ nx_TB := nx_mem 861 (by decide +kernel) (by decide +kernel)
theorem cw_7_213 : nx_CW RX7 213 yX6_timely cX6_timely 9 (some .int) 2 := ⟨wd_861, wd_196, ⟨by decide +kernel, by decide +kernel⟩, by decide +kernel, Nat.le_of_ble_eq_true rfl, Or.inr ⟨"LateStamps", List.mem_of_getElem? (i := 667) (by decide +kernel)⟩⟩
theorem wd_860 : Cond.instanceMethod yX6_timely ∈ nx_TB := nx_mem 860 (by decide +kernel) (by decide +kernel)
theorem wd_82 : Cond.selects RX6 yX6_timely yX6_timely ∈ nx_TB := nx_mem 82 (by decide +kernel) (by decide +kernel)
theorem cv_X6_timely : nx_CV yX6_timely 6 := ⟨wd_860, wd_82, TX6, 1, rfl⟩
theorem cw_7_216 : nx_CW RX7 216 yX6_isLive cX6_isLive 2 (some .boolean) 1 := ⟨wd_589, wd_196, ⟨by decide +kernel, by decide +kernel⟩, by decide +kernel, Nat.le_of_ble_eq_true rfl, Or.inr ⟨"LateStamps", List.mem_of_getElem? (i := 675) (by decide +kernel)⟩⟩
theorem cw_7_219 : nx_CW RX7 219 yX6_fallingWith cX6_fallingWith 5 (some .int) 1 := ⟨wd_870, wd_196, ⟨by decide +kernel, by decide +kernel⟩, by decide +kernel, Nat.le_of_ble_eq_true rfl, Or.inr ⟨"LateStamps", List.mem_of_getElem? (i := 676) (by decide +kernel)⟩⟩
theorem wd_878 : Cond.code yX0_sureBy cX0_sureBy 4 (some .int) ∈ nx_TB := nx_mem 878 (by decide +kernel) (by decide +kernel)
theorem cw_7_222 : nx_CW RX7 222 yX0_sureBy cX0_sureBy 4 (some .int) 2 := ⟨wd_878, wd_198, ⟨by decide +kernel, by decide +kernel⟩, by decide +kernel, Nat.le_of_ble_eq_true rfl, Or.inr ⟨"LateStamps", List.mem_of_getElem? (i := 684) (by decide +kernel)⟩⟩
theorem wd_877 : Cond.instanceMethod yX0_sureBy ∈ nx_TB := nx_mem 877 (by decide +kernel) (by decide +kernel)
theorem wd_84 : Cond.selects RX0 yX0_sureBy yX0_sureBy ∈ nx_TB := nx_mem 84 (by decide +kernel) (by decide +kernel)
theorem cv_X0_sureBy : nx_CV yX0_sureBy 0 := ⟨wd_877, wd_84, TX0, 6, rfl⟩
theorem wd_900 : Cond.code yX0_retriesOf cX0_retriesOf 5 (some .int) ∈ nx_TB := nx_mem 900 (by decide +kernel) (by decide +kernel)
theorem cw_7_226 : nx_CW RX7 226 yX0_retriesOf cX0_retriesOf 5 (some .int) 2 := ⟨wd_900, wd_198, ⟨by decide +kernel, by decide +kernel⟩, by decide +kernel, Nat.le_of_ble_eq_true rfl, Or.inr ⟨"LateStamps", List.mem_of_getElem? (i := 706) (by decide +kernel)⟩⟩
theorem wd_899 : Cond.instanceMethod yX0_retriesOf ∈ nx_TB := nx_mem 899 (by decide +kernel) (by decide +kernel)
theorem wd_87 : Cond.selects RX0 yX0_retriesOf yX0_retriesOf ∈ nx_TB := nx_mem 87 (by decide +kernel) (by decide +kernel)
theorem cv_X0_retriesOf : nx_CV yX0_retriesOf 0 := ⟨wd_899, wd_87, TX0, 6, rfl⟩
theorem wd_911 : Cond.code yX6_floor cX6_floor 1 (some .int) ∈ nx_TB := nx_mem 911 (by decide +kernel) (by decide +kernel)
theorem cw_7_229 : nx_CW RX7 229 yX6_floor cX6_floor 1 (some .int) 0 := ⟨wd_911, wd_196, ⟨by decide +kernel, by decide +kernel⟩, by decide +kernel, Nat.le_of_ble_eq_true rfl, Or.inr ⟨"LateStamps", List.mem_of_getElem? (i := 717) (by decide +kernel)⟩⟩
theorem wd_910 : Cond.instanceMethod yX6_floor ∈ nx_TB := nx_mem 910 (by decide +kernel) (by decide +kernel)
theorem wd_88 : Cond.selects RX6 yX6_floor yX6_floor ∈ nx_TB := nx_mem 88 (by decide +kernel) (by decide +kernel)
theorem cv_X6_floor : nx_CV yX6_floor 6 := ⟨wd_910, wd_88, TX6, 1, rfl⟩
theorem wd_915 : Cond.code yX6_sureValueAt cX6_sureValueAt 4 (some .int) ∈ nx_TB := nx_mem 915 (by decide +kernel) (by decide +kernel)
theorem cw_7_232 : nx_CW RX7 232 yX6_sureValueAt cX6_sureValueAt 4 (some .int) 2 := ⟨wd_915, wd_196, ⟨by decide +kernel, by decide +kernel⟩, by decide +kernel, Nat.le_of_ble_eq_true rfl, Or.inr ⟨"LateStamps", List.mem_of_getElem? (i := 721) (by decide +kernel)⟩⟩
theorem wd_914 : Cond.instanceMethod yX6_sureValueAt ∈ nx_TB := nx_mem 914 (by decide +kernel) (by decide +kernel)
theorem wd_89 : Cond.selects RX6 yX6_sureValueAt yX6_sureValueAt ∈ nx_TB := nx_mem 89 (by decide +kernel) (by decide +kernel)
theorem cv_X6_sureValueAt : nx_CV yX6_sureValueAt 6 := ⟨wd_914, wd_89, TX6, 1, rfl⟩
theorem wd_923 : Cond.code yX7_scriptAt cX7_scriptAt 2 (some (.object "LateStamps$Script")) ∈ nx_TB := nx_mem 923 (by decide +kernel) (by decide +kernel)
theorem wd_920 : Cond.methodLink RX7 235 yX7_scriptAt ∈ nx_TB := nx_mem 920 (by decide +kernel) (by decide +kernel)
theorem cw_7_235 : nx_CW RX7 235 yX7_scriptAt cX7_scriptAt 2 (some (.object "LateStamps$Script")) 1 := ⟨wd_923, wd_192, ⟨by decide +kernel, by decide +kernel⟩, by decide +kernel, Nat.le_of_ble_eq_true rfl, Or.inl wd_920⟩
theorem wd_922 : Cond.instanceMethod yX7_scriptAt ∈ nx_TB := nx_mem 922 (by decide +kernel) (by decide +kernel)
theorem wd_90 : Cond.selects RX7 yX7_scriptAt yX7_scriptAt ∈ nx_TB := nx_mem 90 (by decide +kernel) (by decide +kernel)
theorem cv_X7_scriptAt : nx_CV yX7_scriptAt 7 := ⟨wd_922, wd_90, TX7, 12, rfl⟩
theorem fl_7_239 : nx_FN RX7 239 3 1 := ⟨RX3, TX3, 2, "LateStamps", rfl, by decide, us_3, List.mem_of_getElem? (i := 83) (by decide +kernel)⟩
theorem cw_7_240 : nx_CW RX7 240 yX3_part cX3_part 3 (some .int) 2 := ⟨wd_927, wd_195, ⟨by decide +kernel, by decide +kernel⟩, by decide +kernel, Nat.le_of_ble_eq_true rfl, Or.inr ⟨"LateStamps", List.mem_of_getElem? (i := 733) (by decide +kernel)⟩⟩
theorem wd_935 : Cond.code yX0_stepsDone cX0_stepsDone 6 (some .int) ∈ nx_TB := nx_mem 935 (by decide +kernel) (by decide +kernel)
theorem cw_7_243 : nx_CW RX7 243 yX0_stepsDone cX0_stepsDone 6 (some .int) 2 := ⟨wd_935, wd_198, ⟨by decide +kernel, by decide +kernel⟩, by decide +kernel, Nat.le_of_ble_eq_true rfl, Or.inr ⟨"LateStamps", List.mem_of_getElem? (i := 741) (by decide +kernel)⟩⟩
theorem wd_934 : Cond.instanceMethod yX0_stepsDone ∈ nx_TB := nx_mem 934 (by decide +kernel) (by decide +kernel)
theorem wd_92 : Cond.selects RX0 yX0_stepsDone yX0_stepsDone ∈ nx_TB := nx_mem 92 (by decide +kernel) (by decide +kernel)
theorem cv_X0_stepsDone : nx_CV yX0_stepsDone 0 := ⟨wd_934, wd_92, TX0, 6, rfl⟩
theorem wd_944 : Cond.code yX0_sureBehind cX0_sureBehind 1 (some .int) ∈ nx_TB := nx_mem 944 (by decide +kernel) (by decide +kernel)
theorem cw_7_247 : nx_CW RX7 247 yX0_sureBehind cX0_sureBehind 1 (some .int) 0 := ⟨wd_944, wd_198, ⟨by decide +kernel, by decide +kernel⟩, by decide +kernel, Nat.le_of_ble_eq_true rfl, Or.inr ⟨"LateStamps", List.mem_of_getElem? (i := 750) (by decide +kernel)⟩⟩
theorem wd_943 : Cond.instanceMethod yX0_sureBehind ∈ nx_TB := nx_mem 943 (by decide +kernel) (by decide +kernel)
theorem wd_93 : Cond.selects RX0 yX0_sureBehind yX0_sureBehind ∈ nx_TB := nx_mem 93 (by decide +kernel) (by decide +kernel)
theorem cv_X0_sureBehind : nx_CV yX0_sureBehind 0 := ⟨wd_943, wd_93, TX0, 6, rfl⟩
theorem wd_945 : Cond.methodLink RX7 250 yJ6_bitCount_0f7a4 ∈ nx_TB := nx_mem 945 (by decide +kernel) (by decide +kernel)
theorem cw_7_250 : nx_CW RX7 250 yJ6_bitCount_0f7a4 cJ6_bitCount_0f7a4 1 (some .int) 1 := ⟨wd_725, wd_207, ⟨by decide +kernel, by decide +kernel⟩, by decide +kernel, Nat.le_of_ble_eq_true rfl, Or.inl wd_945⟩
theorem wd_1008 : Cond.code yX6_versionsOfAll cX6_versionsOfAll 3 (some .int) ∈ nx_TB := nx_mem 1008 (by decide +kernel) (by decide +kernel)
theorem cw_7_275 : nx_CW RX7 275 yX6_versionsOfAll cX6_versionsOfAll 3 (some .int) 0 := ⟨wd_1008, wd_196, ⟨by decide +kernel, by decide +kernel⟩, by decide +kernel, Nat.le_of_ble_eq_true rfl, Or.inr ⟨"LateStamps", List.mem_of_getElem? (i := 814) (by decide +kernel)⟩⟩
theorem wd_1007 : Cond.instanceMethod yX6_versionsOfAll ∈ nx_TB := nx_mem 1007 (by decide +kernel) (by decide +kernel)
theorem wd_102 : Cond.selects RX6 yX6_versionsOfAll yX6_versionsOfAll ∈ nx_TB := nx_mem 102 (by decide +kernel) (by decide +kernel)
theorem cv_X6_versionsOfAll : nx_CV yX6_versionsOfAll 6 := ⟨wd_1007, wd_102, TX6, 1, rfl⟩
theorem cw_7_278 : nx_CW RX7 278 yX6_seatsIn cX6_seatsIn 4 (some .int) 1 := ⟨wd_714, wd_196, ⟨by decide +kernel, by decide +kernel⟩, by decide +kernel, Nat.le_of_ble_eq_true rfl, Or.inr ⟨"LateStamps", List.mem_of_getElem? (i := 822) (by decide +kernel)⟩⟩
theorem wd_1017 : Cond.code yX6_doomedSeats cX6_doomedSeats 3 (some .int) ∈ nx_TB := nx_mem 1017 (by decide +kernel) (by decide +kernel)
theorem cw_7_281 : nx_CW RX7 281 yX6_doomedSeats cX6_doomedSeats 3 (some .int) 0 := ⟨wd_1017, wd_196, ⟨by decide +kernel, by decide +kernel⟩, by decide +kernel, Nat.le_of_ble_eq_true rfl, Or.inr ⟨"LateStamps", List.mem_of_getElem? (i := 823) (by decide +kernel)⟩⟩
theorem wd_1016 : Cond.instanceMethod yX6_doomedSeats ∈ nx_TB := nx_mem 1016 (by decide +kernel) (by decide +kernel)
theorem wd_103 : Cond.selects RX6 yX6_doomedSeats yX6_doomedSeats ∈ nx_TB := nx_mem 103 (by decide +kernel) (by decide +kernel)
theorem cv_X6_doomedSeats : nx_CV yX6_doomedSeats 6 := ⟨wd_1016, wd_103, TX6, 1, rfl⟩
theorem wd_1021 : Cond.code yX6_unsureKeys cX6_unsureKeys 4 (some .int) ∈ nx_TB := nx_mem 1021 (by decide +kernel) (by decide +kernel)
theorem cw_7_284 : nx_CW RX7 284 yX6_unsureKeys cX6_unsureKeys 4 (some .int) 0 := ⟨wd_1021, wd_196, ⟨by decide +kernel, by decide +kernel⟩, by decide +kernel, Nat.le_of_ble_eq_true rfl, Or.inr ⟨"LateStamps", List.mem_of_getElem? (i := 827) (by decide +kernel)⟩⟩
theorem wd_1020 : Cond.instanceMethod yX6_unsureKeys ∈ nx_TB := nx_mem 1020 (by decide +kernel) (by decide +kernel)
theorem wd_104 : Cond.selects RX6 yX6_unsureKeys yX6_unsureKeys ∈ nx_TB := nx_mem 104 (by decide +kernel) (by decide +kernel)
theorem cv_X6_unsureKeys : nx_CV yX6_unsureKeys 6 := ⟨wd_1020, wd_104, TX6, 1, rfl⟩
theorem cw_7_287 : nx_CW RX7 287 yX6_oldestSeat cX6_oldestSeat 3 (some .int) 0 := ⟨wd_740, wd_196, ⟨by decide +kernel, by decide +kernel⟩, by decide +kernel, Nat.le_of_ble_eq_true rfl, Or.inr ⟨"LateStamps", List.mem_of_getElem? (i := 831) (by decide +kernel)⟩⟩
theorem wd_1026 : Cond.code yX6_fullestKey cX6_fullestKey 3 (some .int) ∈ nx_TB := nx_mem 1026 (by decide +kernel) (by decide +kernel)
theorem cw_7_290 : nx_CW RX7 290 yX6_fullestKey cX6_fullestKey 3 (some .int) 0 := ⟨wd_1026, wd_196, ⟨by decide +kernel, by decide +kernel⟩, by decide +kernel, Nat.le_of_ble_eq_true rfl, Or.inr ⟨"LateStamps", List.mem_of_getElem? (i := 832) (by decide +kernel)⟩⟩
theorem wd_1025 : Cond.instanceMethod yX6_fullestKey ∈ nx_TB := nx_mem 1025 (by decide +kernel) (by decide +kernel)
theorem wd_105 : Cond.selects RX6 yX6_fullestKey yX6_fullestKey ∈ nx_TB := nx_mem 105 (by decide +kernel) (by decide +kernel)
theorem cv_X6_fullestKey : nx_CV yX6_fullestKey 6 := ⟨wd_1025, wd_105, TX6, 1, rfl⟩
theorem wd_1030 : Cond.code yX6_worstSeat cX6_worstSeat 5 (some .int) ∈ nx_TB := nx_mem 1030 (by decide +kernel) (by decide +kernel)
theorem cw_7_293 : nx_CW RX7 293 yX6_worstSeat cX6_worstSeat 5 (some .int) 0 := ⟨wd_1030, wd_196, ⟨by decide +kernel, by decide +kernel⟩, by decide +kernel, Nat.le_of_ble_eq_true rfl, Or.inr ⟨"LateStamps", List.mem_of_getElem? (i := 836) (by decide +kernel)⟩⟩
theorem wd_1029 : Cond.instanceMethod yX6_worstSeat ∈ nx_TB := nx_mem 1029 (by decide +kernel) (by decide +kernel)
theorem wd_106 : Cond.selects RX6 yX6_worstSeat yX6_worstSeat ∈ nx_TB := nx_mem 106 (by decide +kernel) (by decide +kernel)
theorem cv_X6_worstSeat : nx_CV yX6_worstSeat 6 := ⟨wd_1029, wd_106, TX6, 1, rfl⟩
theorem wd_1035 : Cond.code yX6_longestChain cX6_longestChain 5 (some .int) ∈ nx_TB := nx_mem 1035 (by decide +kernel) (by decide +kernel)
theorem cw_7_296 : nx_CW RX7 296 yX6_longestChain cX6_longestChain 5 (some .int) 0 := ⟨wd_1035, wd_196, ⟨by decide +kernel, by decide +kernel⟩, by decide +kernel, Nat.le_of_ble_eq_true rfl, Or.inr ⟨"LateStamps", List.mem_of_getElem? (i := 841) (by decide +kernel)⟩⟩
theorem wd_1034 : Cond.instanceMethod yX6_longestChain ∈ nx_TB := nx_mem 1034 (by decide +kernel) (by decide +kernel)
theorem wd_107 : Cond.selects RX6 yX6_longestChain yX6_longestChain ∈ nx_TB := nx_mem 107 (by decide +kernel) (by decide +kernel)
theorem cv_X6_longestChain : nx_CV yX6_longestChain 6 := ⟨wd_1034, wd_107, TX6, 1, rfl⟩
theorem wd_1040 : Cond.code yX0_spareOf cX0_spareOf 2 (some .int) ∈ nx_TB := nx_mem 1040 (by decide +kernel) (by decide +kernel)
theorem cw_7_299 : nx_CW RX7 299 yX0_spareOf cX0_spareOf 2 (some .int) 1 := ⟨wd_1040, wd_198, ⟨by decide +kernel, by decide +kernel⟩, by decide +kernel, Nat.le_of_ble_eq_true rfl, Or.inr ⟨"LateStamps", List.mem_of_getElem? (i := 846) (by decide +kernel)⟩⟩
theorem wd_1039 : Cond.instanceMethod yX0_spareOf ∈ nx_TB := nx_mem 1039 (by decide +kernel) (by decide +kernel)
theorem wd_108 : Cond.selects RX0 yX0_spareOf yX0_spareOf ∈ nx_TB := nx_mem 108 (by decide +kernel) (by decide +kernel)
theorem cv_X0_spareOf : nx_CV yX0_spareOf 0 := ⟨wd_1039, wd_108, TX0, 6, rfl⟩
theorem cw_7_302 : nx_CW RX7 302 yX6_become cX6_become 2 none 1 := ⟨wd_640, wd_196, ⟨by decide +kernel, by decide +kernel⟩, by decide +kernel, Nat.le_of_ble_eq_true rfl, Or.inr ⟨"LateStamps", List.mem_of_getElem? (i := 855) (by decide +kernel)⟩⟩
theorem wd_1058 : Cond.code yX6_stampsByHand cX6_stampsByHand 1 (some .int) ∈ nx_TB := nx_mem 1058 (by decide +kernel) (by decide +kernel)
theorem cw_7_305 : nx_CW RX7 305 yX6_stampsByHand cX6_stampsByHand 1 (some .int) 0 := ⟨wd_1058, wd_196, ⟨by decide +kernel, by decide +kernel⟩, by decide +kernel, Nat.le_of_ble_eq_true rfl, Or.inr ⟨"LateStamps", List.mem_of_getElem? (i := 864) (by decide +kernel)⟩⟩
theorem wd_1057 : Cond.instanceMethod yX6_stampsByHand ∈ nx_TB := nx_mem 1057 (by decide +kernel) (by decide +kernel)
theorem wd_109 : Cond.selects RX6 yX6_stampsByHand yX6_stampsByHand ∈ nx_TB := nx_mem 109 (by decide +kernel) (by decide +kernel)
theorem cv_X6_stampsByHand : nx_CV yX6_stampsByHand 6 := ⟨wd_1057, wd_109, TX6, 1, rfl⟩
theorem fl_7_308 : nx_FN RX7 308 2 2 := ⟨RX2, TX2, 3, "LateStamps", rfl, by decide, us_2, List.mem_of_getElem? (i := 111) (by decide +kernel)⟩
theorem wd_1143 : Cond.methodLink RX8 3 Lib.objectInit ∈ nx_TB := nx_mem 1143 (by decide +kernel) (by decide +kernel)
theorem ft_8_1 : nx_FT 8 1 true (.array .int) := ⟨RX8, TX8, 27, tyX8, rfl, by decide, tyX8_ok, nmX8, rfl, rfl, fun _ => rfl⟩
theorem ft_8_5 : nx_FT 8 5 true (.array .int) := ⟨RX8, TX8, 27, tyX8, rfl, by decide, tyX8_ok, nmX8, rfl, rfl, fun _ => rfl⟩
theorem ft_8_6 : nx_FT 8 6 true (.array .int) := ⟨RX8, TX8, 27, tyX8, rfl, by decide, tyX8_ok, nmX8, rfl, rfl, fun _ => rfl⟩
theorem ft_8_8 : nx_FT 8 8 true (.array .int) := ⟨RX8, TX8, 27, tyX8, rfl, by decide, tyX8_ok, nmX8, rfl, rfl, fun _ => rfl⟩
theorem ft_8_10 : nx_FT 8 10 true (.array .int) := ⟨RX8, TX8, 27, tyX8, rfl, by decide, tyX8_ok, nmX8, rfl, rfl, fun _ => rfl⟩
theorem ft_8_11 : nx_FT 8 11 true (.array .int) := ⟨RX8, TX8, 27, tyX8, rfl, by decide, tyX8_ok, nmX8, rfl, rfl, fun _ => rfl⟩
theorem ft_8_13 : nx_FT 8 13 true (.array .int) := ⟨RX8, TX8, 27, tyX8, rfl, by decide, tyX8_ok, nmX8, rfl, rfl, fun _ => rfl⟩
theorem ft_8_14 : nx_FT 8 14 true (.array .int) := ⟨RX8, TX8, 27, tyX8, rfl, by decide, tyX8_ok, nmX8, rfl, rfl, fun _ => rfl⟩
theorem ft_8_17 : nx_FT 8 17 true (.array .int) := ⟨RX8, TX8, 27, tyX8, rfl, by decide, tyX8_ok, nmX8, rfl, rfl, fun _ => rfl⟩
theorem ft_8_18 : nx_FT 8 18 true (.array .int) := ⟨RX8, TX8, 27, tyX8, rfl, by decide, tyX8_ok, nmX8, rfl, rfl, fun _ => rfl⟩
theorem ft_8_21 : nx_FT 8 21 true (.array .int) := ⟨RX8, TX8, 27, tyX8, rfl, by decide, tyX8_ok, nmX8, rfl, rfl, fun _ => rfl⟩
theorem ft_8_24 : nx_FT 8 24 true (.array .int) := ⟨RX8, TX8, 27, tyX8, rfl, by decide, tyX8_ok, nmX8, rfl, rfl, fun _ => rfl⟩
theorem ft_8_25 : nx_FT 8 25 true (.array .int) := ⟨RX8, TX8, 27, tyX8, rfl, by decide, tyX8_ok, nmX8, rfl, rfl, fun _ => rfl⟩
theorem wd_1681 : Cond.code yX8_goMix cX8_goMix 10 none ∈ nx_TB := nx_mem 1681 (by decide +kernel) (by decide +kernel)
theorem wd_1678 : Cond.methodLink RX8 370 yX8_goMix ∈ nx_TB := nx_mem 1678 (by decide +kernel) (by decide +kernel)
theorem cw_8_370 : nx_CW RX8 370 yX8_goMix cX8_goMix 10 none 5 := ⟨wd_1681, wd_200, ⟨by decide +kernel, by decide +kernel⟩, by decide +kernel, Nat.le_of_ble_eq_true rfl, Or.inl wd_1678⟩
theorem wd_1680 : Cond.instanceMethod yX8_goMix ∈ nx_TB := nx_mem 1680 (by decide +kernel) (by decide +kernel)
theorem wd_180 : Cond.selects RX8 yX8_goMix yX8_goMix ∈ nx_TB := nx_mem 180 (by decide +kernel) (by decide +kernel)
theorem cv_X8_goMix : nx_CV yX8_goMix 8 := ⟨wd_1680, wd_180, TX8, 27, rfl⟩
theorem wd_1167 : Cond.fieldLink RX8 364 "LateStampsModel" "mixWell" "I" ∈ nx_TB := nx_mem 1167 (by decide +kernel) (by decide +kernel)
theorem fl_8_364 : nx_FL RX8 364 8 22 := ⟨RX8, TX8, 27, rfl, by decide, us_8, wd_1167⟩
theorem ft_8_22 : nx_FT 8 22 false (.int) := ⟨RX8, TX8, 27, tyX8, rfl, by decide, tyX8_ok, nmX8, rfl, rfl, fun _ => rfl⟩
theorem wd_1168 : Cond.fieldLink RX8 367 "LateStampsModel" "mixFirst" "I" ∈ nx_TB := nx_mem 1168 (by decide +kernel) (by decide +kernel)
theorem fl_8_367 : nx_FL RX8 367 8 23 := ⟨RX8, TX8, 27, rfl, by decide, us_8, wd_1168⟩
theorem ft_8_23 : nx_FT 8 23 false (.int) := ⟨RX8, TX8, 27, tyX8, rfl, by decide, tyX8_ok, nmX8, rfl, rfl, fun _ => rfl⟩
theorem wd_1695 : Cond.constantLong RX8 377 100 ∈ nx_TB := nx_mem 1695 (by decide +kernel) (by decide +kernel)
theorem wd_1690 : Cond.code yX8_oddsFrom cX8_oddsFrom 9 (some .int) ∈ nx_TB := nx_mem 1690 (by decide +kernel) (by decide +kernel)
theorem wd_1687 : Cond.methodLink RX8 379 yX8_oddsFrom ∈ nx_TB := nx_mem 1687 (by decide +kernel) (by decide +kernel)
theorem cw_8_379 : nx_CW RX8 379 yX8_oddsFrom cX8_oddsFrom 9 (some .int) 5 := ⟨wd_1690, wd_200, ⟨by decide +kernel, by decide +kernel⟩, by decide +kernel, Nat.le_of_ble_eq_true rfl, Or.inl wd_1687⟩
theorem wd_1689 : Cond.instanceMethod yX8_oddsFrom ∈ nx_TB := nx_mem 1689 (by decide +kernel) (by decide +kernel)
theorem wd_181 : Cond.selects RX8 yX8_oddsFrom yX8_oddsFrom ∈ nx_TB := nx_mem 181 (by decide +kernel) (by decide +kernel)
theorem cv_X8_oddsFrom : nx_CV yX8_oddsFrom 8 := ⟨wd_1689, wd_181, TX8, 27, rfl⟩
theorem wd_1694 : Cond.code yX8_sureParts cX8_sureParts 3 (some .int) ∈ nx_TB := nx_mem 1694 (by decide +kernel) (by decide +kernel)
theorem wd_1691 : Cond.methodLink RX8 374 yX8_sureParts ∈ nx_TB := nx_mem 1691 (by decide +kernel) (by decide +kernel)
theorem cw_8_374 : nx_CW RX8 374 yX8_sureParts cX8_sureParts 3 (some .int) 1 := ⟨wd_1694, wd_200, ⟨by decide +kernel, by decide +kernel⟩, by decide +kernel, Nat.le_of_ble_eq_true rfl, Or.inl wd_1691⟩
theorem wd_1693 : Cond.instanceMethod yX8_sureParts ∈ nx_TB := nx_mem 1693 (by decide +kernel) (by decide +kernel)
theorem wd_182 : Cond.selects RX8 yX8_sureParts yX8_sureParts ∈ nx_TB := nx_mem 182 (by decide +kernel) (by decide +kernel)
theorem cv_X8_sureParts : nx_CV yX8_sureParts 8 := ⟨wd_1693, wd_182, TX8, 27, rfl⟩
theorem wd_1686 : Cond.constant RX8 383 1000000000 ∈ nx_TB := nx_mem 1686 (by decide +kernel) (by decide +kernel)
theorem wd_964 : Cond.code yX0_mixFrom cX0_mixFrom 9 none ∈ nx_TB := nx_mem 964 (by decide +kernel) (by decide +kernel)
theorem wd_965 : Cond.methodLink RX0 86 yX0_mixFrom ∈ nx_TB := nx_mem 965 (by decide +kernel) (by decide +kernel)
theorem cw_0_86 : nx_CW RX0 86 yX0_mixFrom cX0_mixFrom 9 none 5 := ⟨wd_964, wd_198, ⟨by decide +kernel, by decide +kernel⟩, by decide +kernel, Nat.le_of_ble_eq_true rfl, Or.inl wd_965⟩
theorem wd_963 : Cond.instanceMethod yX0_mixFrom ∈ nx_TB := nx_mem 963 (by decide +kernel) (by decide +kernel)
theorem wd_95 : Cond.selects RX0 yX0_mixFrom yX0_mixFrom ∈ nx_TB := nx_mem 95 (by decide +kernel) (by decide +kernel)
theorem cv_X0_mixFrom : nx_CV yX0_mixFrom 0 := ⟨wd_963, wd_95, TX0, 6, rfl⟩
theorem wd_960 : Cond.code yX0_beginMix cX0_beginMix 2 none ∈ nx_TB := nx_mem 960 (by decide +kernel) (by decide +kernel)
theorem cw_7_258 : nx_CW RX7 258 yX0_beginMix cX0_beginMix 2 none 1 := ⟨wd_960, wd_198, ⟨by decide +kernel, by decide +kernel⟩, by decide +kernel, Nat.le_of_ble_eq_true rfl, Or.inr ⟨"LateStamps", List.mem_of_getElem? (i := 766) (by decide +kernel)⟩⟩
theorem wd_959 : Cond.instanceMethod yX0_beginMix ∈ nx_TB := nx_mem 959 (by decide +kernel) (by decide +kernel)
theorem wd_94 : Cond.selects RX0 yX0_beginMix yX0_beginMix ∈ nx_TB := nx_mem 94 (by decide +kernel) (by decide +kernel)
theorem cv_X0_beginMix : nx_CV yX0_beginMix 0 := ⟨wd_959, wd_94, TX0, 6, rfl⟩
theorem cw_7_261 : nx_CW RX7 261 yX0_mixFrom cX0_mixFrom 9 none 5 := ⟨wd_964, wd_198, ⟨by decide +kernel, by decide +kernel⟩, by decide +kernel, Nat.le_of_ble_eq_true rfl, Or.inr ⟨"LateStamps", List.mem_of_getElem? (i := 770) (by decide +kernel)⟩⟩
theorem wd_973 : Cond.code yX0_firstGoodRow cX0_firstGoodRow 1 (some .int) ∈ nx_TB := nx_mem 973 (by decide +kernel) (by decide +kernel)
theorem cw_7_268 : nx_CW RX7 268 yX0_firstGoodRow cX0_firstGoodRow 1 (some .int) 0 := ⟨wd_973, wd_198, ⟨by decide +kernel, by decide +kernel⟩, by decide +kernel, Nat.le_of_ble_eq_true rfl, Or.inr ⟨"LateStamps", List.mem_of_getElem? (i := 779) (by decide +kernel)⟩⟩
theorem wd_972 : Cond.instanceMethod yX0_firstGoodRow ∈ nx_TB := nx_mem 972 (by decide +kernel) (by decide +kernel)
theorem wd_97 : Cond.selects RX0 yX0_firstGoodRow yX0_firstGoodRow ∈ nx_TB := nx_mem 97 (by decide +kernel) (by decide +kernel)
theorem cv_X0_firstGoodRow : nx_CV yX0_firstGoodRow 0 := ⟨wd_972, wd_97, TX0, 6, rfl⟩
theorem wd_969 : Cond.code yX0_goodRows cX0_goodRows 1 (some .int) ∈ nx_TB := nx_mem 969 (by decide +kernel) (by decide +kernel)
theorem cw_7_265 : nx_CW RX7 265 yX0_goodRows cX0_goodRows 1 (some .int) 0 := ⟨wd_969, wd_198, ⟨by decide +kernel, by decide +kernel⟩, by decide +kernel, Nat.le_of_ble_eq_true rfl, Or.inr ⟨"LateStamps", List.mem_of_getElem? (i := 775) (by decide +kernel)⟩⟩
theorem wd_968 : Cond.instanceMethod yX0_goodRows ∈ nx_TB := nx_mem 968 (by decide +kernel) (by decide +kernel)
theorem wd_96 : Cond.selects RX0 yX0_goodRows yX0_goodRows ∈ nx_TB := nx_mem 96 (by decide +kernel) (by decide +kernel)
theorem cv_X0_goodRows : nx_CV yX0_goodRows 0 := ⟨wd_968, wd_96, TX0, 6, rfl⟩
theorem wd_956 : Cond.code yX7_rowsOf cX7_rowsOf 4 (some .int) ∈ nx_TB := nx_mem 956 (by decide +kernel) (by decide +kernel)
theorem wd_954 : Cond.methodLink RX7 255 yX7_rowsOf ∈ nx_TB := nx_mem 954 (by decide +kernel) (by decide +kernel)
theorem cw_7_255 : nx_CW RX7 255 yX7_rowsOf cX7_rowsOf 4 (some .int) 2 := ⟨wd_956, wd_192, ⟨by decide +kernel, by decide +kernel⟩, by decide +kernel, Nat.le_of_ble_eq_true rfl, Or.inl wd_954⟩
theorem wd_955 : Cond.static yX7_rowsOf ∈ nx_TB := nx_mem 955 (by decide +kernel) (by decide +kernel)
theorem wd_994 : Cond.code yX0_nextDrawn cX0_nextDrawn 3 (some .int) ∈ nx_TB := nx_mem 994 (by decide +kernel) (by decide +kernel)
theorem wd_991 : Cond.methodLink RX0 108 yX0_nextDrawn ∈ nx_TB := nx_mem 991 (by decide +kernel) (by decide +kernel)
theorem cw_0_108 : nx_CW RX0 108 yX0_nextDrawn cX0_nextDrawn 3 (some .int) 1 := ⟨wd_994, wd_198, ⟨by decide +kernel, by decide +kernel⟩, by decide +kernel, Nat.le_of_ble_eq_true rfl, Or.inl wd_991⟩
theorem wd_993 : Cond.instanceMethod yX0_nextDrawn ∈ nx_TB := nx_mem 993 (by decide +kernel) (by decide +kernel)
theorem wd_101 : Cond.selects RX0 yX0_nextDrawn yX0_nextDrawn ∈ nx_TB := nx_mem 101 (by decide +kernel) (by decide +kernel)
theorem cv_X0_nextDrawn : nx_CV yX0_nextDrawn 0 := ⟨wd_993, wd_101, TX0, 6, rfl⟩
theorem wd_321 : Cond.fieldLink RX0 93 "LateStamps$Apart" "chance" "I" ∈ nx_TB := nx_mem 321 (by decide +kernel) (by decide +kernel)
theorem fl_0_93 : nx_FL RX0 93 0 4 := ⟨RX0, TX0, 6, rfl, by decide, us_0, wd_321⟩
theorem wd_998 : Cond.constantLong RX0 114 100 ∈ nx_TB := nx_mem 998 (by decide +kernel) (by decide +kernel)
theorem cw_0_116 : nx_CW RX0 116 yX6_isLive cX6_isLive 2 (some .boolean) 1 := ⟨wd_589, wd_196, ⟨by decide +kernel, by decide +kernel⟩, by decide +kernel, Nat.le_of_ble_eq_true rfl, Or.inr ⟨"LateStamps", List.mem_of_getElem? (i := 808) (by decide +kernel)⟩⟩
theorem cw_0_120 : nx_CW RX0 120 yX6_fallWithAll cX6_fallWithAll 6 (some .int) 1 := ⟨wd_698, wd_196, ⟨by decide +kernel, by decide +kernel⟩, by decide +kernel, Nat.le_of_ble_eq_true rfl, Or.inr ⟨"LateStamps", List.mem_of_getElem? (i := 809) (by decide +kernel)⟩⟩
theorem wd_990 : Cond.code yX0_partsFrom cX0_partsFrom 12 (some .long) ∈ nx_TB := nx_mem 990 (by decide +kernel) (by decide +kernel)
theorem wd_987 : Cond.methodLink RX0 104 yX0_partsFrom ∈ nx_TB := nx_mem 987 (by decide +kernel) (by decide +kernel)
theorem cw_0_104 : nx_CW RX0 104 yX0_partsFrom cX0_partsFrom 12 (some .long) 3 := ⟨wd_990, wd_198, ⟨by decide +kernel, by decide +kernel⟩, by decide +kernel, Nat.le_of_ble_eq_true rfl, Or.inl wd_987⟩
theorem wd_989 : Cond.instanceMethod yX0_partsFrom ∈ nx_TB := nx_mem 989 (by decide +kernel) (by decide +kernel)
theorem wd_100 : Cond.selects RX0 yX0_partsFrom yX0_partsFrom ∈ nx_TB := nx_mem 100 (by decide +kernel) (by decide +kernel)
theorem cv_X0_partsFrom : nx_CV yX0_partsFrom 0 := ⟨wd_989, wd_100, TX0, 6, rfl⟩
theorem wd_997 : Cond.code yX0_commitAll cX0_commitAll 2 none ∈ nx_TB := nx_mem 997 (by decide +kernel) (by decide +kernel)
theorem wd_995 : Cond.methodLink RX0 111 yX0_commitAll ∈ nx_TB := nx_mem 995 (by decide +kernel) (by decide +kernel)
theorem cw_0_111 : nx_CW RX0 111 yX0_commitAll cX0_commitAll 2 none 1 := ⟨wd_997, wd_198, ⟨by decide +kernel, by decide +kernel⟩, by decide +kernel, Nat.le_of_ble_eq_true rfl, Or.inl wd_995⟩
theorem wd_996 : Cond.static yX0_commitAll ∈ nx_TB := nx_mem 996 (by decide +kernel) (by decide +kernel)
theorem wd_320 : Cond.fieldLink RX0 90 "LateStamps$Apart" "target" "I" ∈ nx_TB := nx_mem 320 (by decide +kernel) (by decide +kernel)
theorem fl_0_90 : nx_FL RX0 90 0 3 := ⟨RX0, TX0, 6, rfl, by decide, us_0, wd_320⟩
theorem ft_0_3 : nx_FT 0 3 false (.int) := ⟨RX0, TX0, 6, tyX0, rfl, by decide, tyX0_ok, nmX0, rfl, rfl, fun _ => rfl⟩
theorem ft_0_4 : nx_FT 0 4 false (.int) := ⟨RX0, TX0, 6, tyX0, rfl, by decide, tyX0_ok, nmX0, rfl, rfl, fun _ => rfl⟩
theorem cw_0_96 : nx_CW RX0 96 yX6_liveSeats cX6_liveSeats 1 (some .int) 0 := ⟨wd_985, wd_196, ⟨by decide +kernel, by decide +kernel⟩, by decide +kernel, Nat.le_of_ble_eq_true rfl, Or.inr ⟨"LateStamps", List.mem_of_getElem? (i := 791) (by decide +kernel)⟩⟩
theorem ft_0_5 : nx_FT 0 5 false (.int) := ⟨RX0, TX0, 6, tyX0, rfl, by decide, tyX0_ok, nmX0, rfl, rfl, fun _ => rfl⟩
theorem wd_986 : Cond.constantLong RX0 102 1000000000 ∈ nx_TB := nx_mem 986 (by decide +kernel) (by decide +kernel)
theorem wd_981 : Cond.code yX0_oddsOf cX0_oddsOf 4 (some .int) ∈ nx_TB := nx_mem 981 (by decide +kernel) (by decide +kernel)
theorem cw_7_271 : nx_CW RX7 271 yX0_oddsOf cX0_oddsOf 4 (some .int) 3 := ⟨wd_981, wd_198, ⟨by decide +kernel, by decide +kernel⟩, by decide +kernel, Nat.le_of_ble_eq_true rfl, Or.inr ⟨"LateStamps", List.mem_of_getElem? (i := 787) (by decide +kernel)⟩⟩
theorem wd_980 : Cond.instanceMethod yX0_oddsOf ∈ nx_TB := nx_mem 980 (by decide +kernel) (by decide +kernel)
theorem wd_98 : Cond.selects RX0 yX0_oddsOf yX0_oddsOf ∈ nx_TB := nx_mem 98 (by decide +kernel) (by decide +kernel)
theorem cv_X0_oddsOf : nx_CV yX0_oddsOf 0 := ⟨wd_980, wd_98, TX0, 6, rfl⟩
