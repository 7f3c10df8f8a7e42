/-! ===== the law's words and instructions (printed by lawgen.py) ===== -/
theorem wl_i7 : Cond.initialized RX7 ∈ nx_TB := nx_mem 192 (by decide +kernel) (by decide +kernel)
theorem wl_i8 : Cond.initialized RX8 ∈ nx_TB := nx_mem 200 (by decide +kernel) (by decide +kernel)
theorem dL_208 : decode code 208 = .ok (.aload_n 1, 1) := by decide +kernel
theorem aL_209 : argD 209 ((1 : Nat) : Int) := ⟨by decide +kernel, by decide +kernel, by decide +kernel, by decide +kernel, by decide +kernel⟩
theorem aL_215 : argD 215 ((2 : Nat) : Int) := ⟨by decide +kernel, by decide +kernel, by decide +kernel, by decide +kernel, by decide +kernel⟩
theorem aL_221 : argD 221 ((3 : Nat) : Int) := ⟨by decide +kernel, by decide +kernel, by decide +kernel, by decide +kernel, by decide +kernel⟩
theorem aL_227 : argD 227 ((4 : Nat) : Int) := ⟨by decide +kernel, by decide +kernel, by decide +kernel, by decide +kernel, by decide +kernel⟩
theorem aL_233 : argD 233 ((5 : Nat) : Int) := ⟨by decide +kernel, by decide +kernel, by decide +kernel, by decide +kernel, by decide +kernel⟩
theorem wlc_C_feed : Cond.code yX7_feed cX7_feed 7 (some .int) ∈ nx_TB := nx_mem 386 (by decide +kernel) (by decide +kernel)
theorem wll_C_feed : Cond.methodLink RL 19 yX7_feed ∈ nx_TB := nx_mem 383 (by decide +kernel) (by decide +kernel)
theorem wlm_C_feed : Cond.instanceMethod yX7_feed ∈ nx_TB := nx_mem 384 (by decide +kernel) (by decide +kernel)
theorem wls_C_feed : Cond.selects yX7_feed.cls yX7_feed yX7_feed ∈ nx_TB := nx_mem 385 (by decide +kernel) (by decide +kernel)
theorem cwl_C_feed : nx_CW RL 19 yX7_feed cX7_feed 7 (some .int) 5 := ⟨wlc_C_feed, wl_i7, ⟨by decide +kernel, by decide +kernel⟩, by decide +kernel, Nat.le_of_ble_eq_true rfl, Or.inl wll_C_feed⟩
theorem cvl_C_feed : nx_CV yX7_feed 7 := ⟨wlm_C_feed, wls_C_feed, TX7, 12, rfl⟩
theorem dL_239 : decode code 239 = .ok (.invokevirtual 19, 3) := by decide +kernel
theorem dL_242 : decode code 242 = .ok (.aload_n 2, 1) := by decide +kernel
theorem aL_243 : argD 243 ((1 : Nat) : Int) := ⟨by decide +kernel, by decide +kernel, by decide +kernel, by decide +kernel, by decide +kernel⟩
theorem aL_249 : argD 249 ((2 : Nat) : Int) := ⟨by decide +kernel, by decide +kernel, by decide +kernel, by decide +kernel, by decide +kernel⟩
theorem aL_255 : argD 255 ((3 : Nat) : Int) := ⟨by decide +kernel, by decide +kernel, by decide +kernel, by decide +kernel, by decide +kernel⟩
theorem aL_261 : argD 261 ((4 : Nat) : Int) := ⟨by decide +kernel, by decide +kernel, by decide +kernel, by decide +kernel, by decide +kernel⟩
theorem aL_267 : argD 267 ((5 : Nat) : Int) := ⟨by decide +kernel, by decide +kernel, by decide +kernel, by decide +kernel, by decide +kernel⟩
theorem wlc_M_feed : Cond.code yX8_feed cX8_feed 9 (some .int) ∈ nx_TB := nx_mem 1234 (by decide +kernel) (by decide +kernel)
theorem wll_M_feed : Cond.methodLink RL 23 yX8_feed ∈ nx_TB := nx_mem 1231 (by decide +kernel) (by decide +kernel)
theorem wlm_M_feed : Cond.instanceMethod yX8_feed ∈ nx_TB := nx_mem 1232 (by decide +kernel) (by decide +kernel)
theorem wls_M_feed : Cond.selects yX8_feed.cls yX8_feed yX8_feed ∈ nx_TB := nx_mem 1233 (by decide +kernel) (by decide +kernel)
theorem cwl_M_feed : nx_CW RL 23 yX8_feed cX8_feed 9 (some .int) 5 := ⟨wlc_M_feed, wl_i8, ⟨by decide +kernel, by decide +kernel⟩, by decide +kernel, Nat.le_of_ble_eq_true rfl, Or.inl wll_M_feed⟩
theorem cvl_M_feed : nx_CV yX8_feed 8 := ⟨wlm_M_feed, wls_M_feed, TX8, 27, rfl⟩
theorem dL_273 : decode code 273 = .ok (.invokevirtual 23, 3) := by decide +kernel
theorem dL_276 : decode code 276 = .ok (.if_icmp .eq 1245, 3) := by decide +kernel
theorem dL_281 : decode code 281 = .ok (.aload_n 1, 1) := by decide +kernel
theorem aL_282 : argD 282 ((1 : Nat) : Int) := ⟨by decide +kernel, by decide +kernel, by decide +kernel, by decide +kernel, by decide +kernel⟩
theorem wlc_C_end : Cond.code yX7_end cX7_end 2 (some .boolean) ∈ nx_TB := nx_mem 397 (by decide +kernel) (by decide +kernel)
theorem wll_C_end : Cond.methodLink RL 24 yX7_end ∈ nx_TB := nx_mem 394 (by decide +kernel) (by decide +kernel)
theorem wlm_C_end : Cond.instanceMethod yX7_end ∈ nx_TB := nx_mem 395 (by decide +kernel) (by decide +kernel)
theorem wls_C_end : Cond.selects yX7_end.cls yX7_end yX7_end ∈ nx_TB := nx_mem 396 (by decide +kernel) (by decide +kernel)
theorem cwl_C_end : nx_CW RL 24 yX7_end cX7_end 2 (some .boolean) 1 := ⟨wlc_C_end, wl_i7, ⟨by decide +kernel, by decide +kernel⟩, by decide +kernel, Nat.le_of_ble_eq_true rfl, Or.inl wll_C_end⟩
theorem cvl_C_end : nx_CV yX7_end 7 := ⟨wlm_C_end, wls_C_end, TX7, 12, rfl⟩
theorem dL_288 : decode code 288 = .ok (.invokevirtual 24, 3) := by decide +kernel
theorem dL_291 : decode code 291 = .ok (.aload_n 2, 1) := by decide +kernel
theorem aL_292 : argD 292 ((1 : Nat) : Int) := ⟨by decide +kernel, by decide +kernel, by decide +kernel, by decide +kernel, by decide +kernel⟩
theorem wlc_M_end : Cond.code yX8_end cX8_end 2 (some .boolean) ∈ nx_TB := nx_mem 1241 (by decide +kernel) (by decide +kernel)
theorem wll_M_end : Cond.methodLink RL 28 yX8_end ∈ nx_TB := nx_mem 1238 (by decide +kernel) (by decide +kernel)
theorem wlm_M_end : Cond.instanceMethod yX8_end ∈ nx_TB := nx_mem 1239 (by decide +kernel) (by decide +kernel)
theorem wls_M_end : Cond.selects yX8_end.cls yX8_end yX8_end ∈ nx_TB := nx_mem 1240 (by decide +kernel) (by decide +kernel)
theorem cwl_M_end : nx_CW RL 28 yX8_end cX8_end 2 (some .boolean) 1 := ⟨wlc_M_end, wl_i8, ⟨by decide +kernel, by decide +kernel⟩, by decide +kernel, Nat.le_of_ble_eq_true rfl, Or.inl wll_M_end⟩
theorem cvl_M_end : nx_CV yX8_end 8 := ⟨wlm_M_end, wls_M_end, TX8, 27, rfl⟩
theorem dL_298 : decode code 298 = .ok (.invokevirtual 28, 3) := by decide +kernel
theorem dL_301 : decode code 301 = .ok (.if_icmp .eq 1220, 3) := by decide +kernel
theorem dL_306 : decode code 306 = .ok (.aload_n 1, 1) := by decide +kernel
theorem aL_307 : argD 307 ((1 : Nat) : Int) := ⟨by decide +kernel, by decide +kernel, by decide +kernel, by decide +kernel, by decide +kernel⟩
theorem wlc_C_fault : Cond.code yX7_fault cX7_fault 2 (some .int) ∈ nx_TB := nx_mem 401 (by decide +kernel) (by decide +kernel)
theorem wll_C_fault : Cond.methodLink RL 29 yX7_fault ∈ nx_TB := nx_mem 398 (by decide +kernel) (by decide +kernel)
theorem wlm_C_fault : Cond.instanceMethod yX7_fault ∈ nx_TB := nx_mem 399 (by decide +kernel) (by decide +kernel)
theorem wls_C_fault : Cond.selects yX7_fault.cls yX7_fault yX7_fault ∈ nx_TB := nx_mem 400 (by decide +kernel) (by decide +kernel)
theorem cwl_C_fault : nx_CW RL 29 yX7_fault cX7_fault 2 (some .int) 1 := ⟨wlc_C_fault, wl_i7, ⟨by decide +kernel, by decide +kernel⟩, by decide +kernel, Nat.le_of_ble_eq_true rfl, Or.inl wll_C_fault⟩
theorem cvl_C_fault : nx_CV yX7_fault 7 := ⟨wlm_C_fault, wls_C_fault, TX7, 12, rfl⟩
theorem dL_313 : decode code 313 = .ok (.invokevirtual 29, 3) := by decide +kernel
theorem dL_316 : decode code 316 = .ok (.aload_n 2, 1) := by decide +kernel
theorem aL_317 : argD 317 ((1 : Nat) : Int) := ⟨by decide +kernel, by decide +kernel, by decide +kernel, by decide +kernel, by decide +kernel⟩
theorem wlc_M_fault : Cond.code yX8_fault cX8_fault 2 (some .int) ∈ nx_TB := nx_mem 1248 (by decide +kernel) (by decide +kernel)
theorem wll_M_fault : Cond.methodLink RL 33 yX8_fault ∈ nx_TB := nx_mem 1245 (by decide +kernel) (by decide +kernel)
theorem wlm_M_fault : Cond.instanceMethod yX8_fault ∈ nx_TB := nx_mem 1246 (by decide +kernel) (by decide +kernel)
theorem wls_M_fault : Cond.selects yX8_fault.cls yX8_fault yX8_fault ∈ nx_TB := nx_mem 1247 (by decide +kernel) (by decide +kernel)
theorem cwl_M_fault : nx_CW RL 33 yX8_fault cX8_fault 2 (some .int) 1 := ⟨wlc_M_fault, wl_i8, ⟨by decide +kernel, by decide +kernel⟩, by decide +kernel, Nat.le_of_ble_eq_true rfl, Or.inl wll_M_fault⟩
theorem cvl_M_fault : nx_CV yX8_fault 8 := ⟨wlm_M_fault, wls_M_fault, TX8, 27, rfl⟩
theorem dL_323 : decode code 323 = .ok (.invokevirtual 33, 3) := by decide +kernel
theorem dL_326 : decode code 326 = .ok (.if_icmp .eq 1195, 3) := by decide +kernel
theorem dL_331 : decode code 331 = .ok (.aload_n 1, 1) := by decide +kernel
theorem aL_332 : argD 332 ((1 : Nat) : Int) := ⟨by decide +kernel, by decide +kernel, by decide +kernel, by decide +kernel, by decide +kernel⟩
theorem wlc_C_text : Cond.code yX7_text cX7_text 2 (some .int) ∈ nx_TB := nx_mem 485 (by decide +kernel) (by decide +kernel)
theorem wll_C_text : Cond.methodLink RL 34 yX7_text ∈ nx_TB := nx_mem 482 (by decide +kernel) (by decide +kernel)
theorem wlm_C_text : Cond.instanceMethod yX7_text ∈ nx_TB := nx_mem 483 (by decide +kernel) (by decide +kernel)
theorem wls_C_text : Cond.selects yX7_text.cls yX7_text yX7_text ∈ nx_TB := nx_mem 484 (by decide +kernel) (by decide +kernel)
theorem cwl_C_text : nx_CW RL 34 yX7_text cX7_text 2 (some .int) 1 := ⟨wlc_C_text, wl_i7, ⟨by decide +kernel, by decide +kernel⟩, by decide +kernel, Nat.le_of_ble_eq_true rfl, Or.inl wll_C_text⟩
theorem cvl_C_text : nx_CV yX7_text 7 := ⟨wlm_C_text, wls_C_text, TX7, 12, rfl⟩
theorem dL_338 : decode code 338 = .ok (.invokevirtual 34, 3) := by decide +kernel
theorem dL_341 : decode code 341 = .ok (.aload_n 2, 1) := by decide +kernel
theorem aL_342 : argD 342 ((1 : Nat) : Int) := ⟨by decide +kernel, by decide +kernel, by decide +kernel, by decide +kernel, by decide +kernel⟩
theorem wlc_M_text : Cond.code yX8_text cX8_text 2 (some .int) ∈ nx_TB := nx_mem 1312 (by decide +kernel) (by decide +kernel)
theorem wll_M_text : Cond.methodLink RL 37 yX8_text ∈ nx_TB := nx_mem 1309 (by decide +kernel) (by decide +kernel)
theorem wlm_M_text : Cond.instanceMethod yX8_text ∈ nx_TB := nx_mem 1310 (by decide +kernel) (by decide +kernel)
theorem wls_M_text : Cond.selects yX8_text.cls yX8_text yX8_text ∈ nx_TB := nx_mem 1311 (by decide +kernel) (by decide +kernel)
theorem cwl_M_text : nx_CW RL 37 yX8_text cX8_text 2 (some .int) 1 := ⟨wlc_M_text, wl_i8, ⟨by decide +kernel, by decide +kernel⟩, by decide +kernel, Nat.le_of_ble_eq_true rfl, Or.inl wll_M_text⟩
theorem cvl_M_text : nx_CV yX8_text 8 := ⟨wlm_M_text, wls_M_text, TX8, 27, rfl⟩
theorem dL_348 : decode code 348 = .ok (.invokevirtual 37, 3) := by decide +kernel
theorem dL_351 : decode code 351 = .ok (.if_icmp .eq 1170, 3) := by decide +kernel
theorem dL_356 : decode code 356 = .ok (.aload_n 1, 1) := by decide +kernel
theorem aL_357 : argD 357 ((1 : Nat) : Int) := ⟨by decide +kernel, by decide +kernel, by decide +kernel, by decide +kernel, by decide +kernel⟩
theorem wlc_C_rule : Cond.code yX7_rule cX7_rule 2 (some .int) ∈ nx_TB := nx_mem 509 (by decide +kernel) (by decide +kernel)
theorem wll_C_rule : Cond.methodLink RL 38 yX7_rule ∈ nx_TB := nx_mem 506 (by decide +kernel) (by decide +kernel)
theorem wlm_C_rule : Cond.instanceMethod yX7_rule ∈ nx_TB := nx_mem 507 (by decide +kernel) (by decide +kernel)
theorem wls_C_rule : Cond.selects yX7_rule.cls yX7_rule yX7_rule ∈ nx_TB := nx_mem 508 (by decide +kernel) (by decide +kernel)
theorem cwl_C_rule : nx_CW RL 38 yX7_rule cX7_rule 2 (some .int) 1 := ⟨wlc_C_rule, wl_i7, ⟨by decide +kernel, by decide +kernel⟩, by decide +kernel, Nat.le_of_ble_eq_true rfl, Or.inl wll_C_rule⟩
theorem cvl_C_rule : nx_CV yX7_rule 7 := ⟨wlm_C_rule, wls_C_rule, TX7, 12, rfl⟩
theorem dL_363 : decode code 363 = .ok (.invokevirtual 38, 3) := by decide +kernel
theorem dL_366 : decode code 366 = .ok (.aload_n 2, 1) := by decide +kernel
theorem aL_367 : argD 367 ((1 : Nat) : Int) := ⟨by decide +kernel, by decide +kernel, by decide +kernel, by decide +kernel, by decide +kernel⟩
theorem wlc_M_rule : Cond.code yX8_rule cX8_rule 2 (some .int) ∈ nx_TB := nx_mem 1584 (by decide +kernel) (by decide +kernel)
theorem wll_M_rule : Cond.methodLink RL 41 yX8_rule ∈ nx_TB := nx_mem 1581 (by decide +kernel) (by decide +kernel)
theorem wlm_M_rule : Cond.instanceMethod yX8_rule ∈ nx_TB := nx_mem 1582 (by decide +kernel) (by decide +kernel)
theorem wls_M_rule : Cond.selects yX8_rule.cls yX8_rule yX8_rule ∈ nx_TB := nx_mem 1583 (by decide +kernel) (by decide +kernel)
theorem cwl_M_rule : nx_CW RL 41 yX8_rule cX8_rule 2 (some .int) 1 := ⟨wlc_M_rule, wl_i8, ⟨by decide +kernel, by decide +kernel⟩, by decide +kernel, Nat.le_of_ble_eq_true rfl, Or.inl wll_M_rule⟩
theorem cvl_M_rule : nx_CV yX8_rule 8 := ⟨wlm_M_rule, wls_M_rule, TX8, 27, rfl⟩
theorem dL_373 : decode code 373 = .ok (.invokevirtual 41, 3) := by decide +kernel
theorem dL_376 : decode code 376 = .ok (.if_icmp .eq 1145, 3) := by decide +kernel
theorem dL_449 : decode code 449 = .ok (.aload_n 1, 1) := by decide +kernel
theorem aL_450 : argD 450 ((1 : Nat) : Int) := ⟨by decide +kernel, by decide +kernel, by decide +kernel, by decide +kernel, by decide +kernel⟩
theorem aL_456 : argD 456 ((2 : Nat) : Int) := ⟨by decide +kernel, by decide +kernel, by decide +kernel, by decide +kernel, by decide +kernel⟩
theorem wlc_C_readBy : Cond.code yX7_readBy cX7_readBy 3 (some .int) ∈ nx_TB := nx_mem 522 (by decide +kernel) (by decide +kernel)
theorem wll_C_readBy : Cond.methodLink RL 52 yX7_readBy ∈ nx_TB := nx_mem 519 (by decide +kernel) (by decide +kernel)
theorem wlm_C_readBy : Cond.instanceMethod yX7_readBy ∈ nx_TB := nx_mem 520 (by decide +kernel) (by decide +kernel)
theorem wls_C_readBy : Cond.selects yX7_readBy.cls yX7_readBy yX7_readBy ∈ nx_TB := nx_mem 521 (by decide +kernel) (by decide +kernel)
theorem cwl_C_readBy : nx_CW RL 52 yX7_readBy cX7_readBy 3 (some .int) 2 := ⟨wlc_C_readBy, wl_i7, ⟨by decide +kernel, by decide +kernel⟩, by decide +kernel, Nat.le_of_ble_eq_true rfl, Or.inl wll_C_readBy⟩
theorem cvl_C_readBy : nx_CV yX7_readBy 7 := ⟨wlm_C_readBy, wls_C_readBy, TX7, 12, rfl⟩
theorem dL_462 : decode code 462 = .ok (.invokevirtual 52, 3) := by decide +kernel
theorem dL_465 : decode code 465 = .ok (.aload_n 2, 1) := by decide +kernel
theorem aL_466 : argD 466 ((1 : Nat) : Int) := ⟨by decide +kernel, by decide +kernel, by decide +kernel, by decide +kernel, by decide +kernel⟩
theorem aL_472 : argD 472 ((2 : Nat) : Int) := ⟨by decide +kernel, by decide +kernel, by decide +kernel, by decide +kernel, by decide +kernel⟩
theorem wlc_M_readBy : Cond.code yX8_readBy cX8_readBy 3 (some .int) ∈ nx_TB := nx_mem 1592 (by decide +kernel) (by decide +kernel)
theorem wll_M_readBy : Cond.methodLink RL 55 yX8_readBy ∈ nx_TB := nx_mem 1589 (by decide +kernel) (by decide +kernel)
theorem wlm_M_readBy : Cond.instanceMethod yX8_readBy ∈ nx_TB := nx_mem 1590 (by decide +kernel) (by decide +kernel)
theorem wls_M_readBy : Cond.selects yX8_readBy.cls yX8_readBy yX8_readBy ∈ nx_TB := nx_mem 1591 (by decide +kernel) (by decide +kernel)
theorem cwl_M_readBy : nx_CW RL 55 yX8_readBy cX8_readBy 3 (some .int) 2 := ⟨wlc_M_readBy, wl_i8, ⟨by decide +kernel, by decide +kernel⟩, by decide +kernel, Nat.le_of_ble_eq_true rfl, Or.inl wll_M_readBy⟩
theorem cvl_M_readBy : nx_CV yX8_readBy 8 := ⟨wlm_M_readBy, wls_M_readBy, TX8, 27, rfl⟩
theorem dL_478 : decode code 478 = .ok (.invokevirtual 55, 3) := by decide +kernel
theorem dL_481 : decode code 481 = .ok (.if_icmp .eq 1040, 3) := by decide +kernel
theorem dL_486 : decode code 486 = .ok (.aload_n 1, 1) := by decide +kernel
theorem aL_487 : argD 487 ((1 : Nat) : Int) := ⟨by decide +kernel, by decide +kernel, by decide +kernel, by decide +kernel, by decide +kernel⟩
theorem aL_493 : argD 493 ((2 : Nat) : Int) := ⟨by decide +kernel, by decide +kernel, by decide +kernel, by decide +kernel, by decide +kernel⟩
theorem aL_499 : argD 499 ((3 : Nat) : Int) := ⟨by decide +kernel, by decide +kernel, by decide +kernel, by decide +kernel, by decide +kernel⟩
theorem wlc_C_deed : Cond.code yX7_deed cX7_deed 4 (some .int) ∈ nx_TB := nx_mem 539 (by decide +kernel) (by decide +kernel)
theorem wll_C_deed : Cond.methodLink RL 56 yX7_deed ∈ nx_TB := nx_mem 536 (by decide +kernel) (by decide +kernel)
theorem wlm_C_deed : Cond.instanceMethod yX7_deed ∈ nx_TB := nx_mem 537 (by decide +kernel) (by decide +kernel)
theorem wls_C_deed : Cond.selects yX7_deed.cls yX7_deed yX7_deed ∈ nx_TB := nx_mem 538 (by decide +kernel) (by decide +kernel)
theorem cwl_C_deed : nx_CW RL 56 yX7_deed cX7_deed 4 (some .int) 3 := ⟨wlc_C_deed, wl_i7, ⟨by decide +kernel, by decide +kernel⟩, by decide +kernel, Nat.le_of_ble_eq_true rfl, Or.inl wll_C_deed⟩
theorem cvl_C_deed : nx_CV yX7_deed 7 := ⟨wlm_C_deed, wls_C_deed, TX7, 12, rfl⟩
theorem dL_505 : decode code 505 = .ok (.invokevirtual 56, 3) := by decide +kernel
theorem dL_508 : decode code 508 = .ok (.aload_n 2, 1) := by decide +kernel
theorem aL_509 : argD 509 ((1 : Nat) : Int) := ⟨by decide +kernel, by decide +kernel, by decide +kernel, by decide +kernel, by decide +kernel⟩
theorem aL_515 : argD 515 ((2 : Nat) : Int) := ⟨by decide +kernel, by decide +kernel, by decide +kernel, by decide +kernel, by decide +kernel⟩
theorem aL_521 : argD 521 ((3 : Nat) : Int) := ⟨by decide +kernel, by decide +kernel, by decide +kernel, by decide +kernel, by decide +kernel⟩
theorem wlc_M_deed : Cond.code yX8_deed cX8_deed 4 (some .int) ∈ nx_TB := nx_mem 1596 (by decide +kernel) (by decide +kernel)
theorem wll_M_deed : Cond.methodLink RL 60 yX8_deed ∈ nx_TB := nx_mem 1593 (by decide +kernel) (by decide +kernel)
theorem wlm_M_deed : Cond.instanceMethod yX8_deed ∈ nx_TB := nx_mem 1594 (by decide +kernel) (by decide +kernel)
theorem wls_M_deed : Cond.selects yX8_deed.cls yX8_deed yX8_deed ∈ nx_TB := nx_mem 1595 (by decide +kernel) (by decide +kernel)
theorem cwl_M_deed : nx_CW RL 60 yX8_deed cX8_deed 4 (some .int) 3 := ⟨wlc_M_deed, wl_i8, ⟨by decide +kernel, by decide +kernel⟩, by decide +kernel, Nat.le_of_ble_eq_true rfl, Or.inl wll_M_deed⟩
theorem cvl_M_deed : nx_CV yX8_deed 8 := ⟨wlm_M_deed, wls_M_deed, TX8, 27, rfl⟩
theorem dL_527 : decode code 527 = .ok (.invokevirtual 60, 3) := by decide +kernel
theorem dL_530 : decode code 530 = .ok (.if_icmp .eq 991, 3) := by decide +kernel
theorem dL_535 : decode code 535 = .ok (.aload_n 1, 1) := by decide +kernel
theorem aL_536 : argD 536 ((1 : Nat) : Int) := ⟨by decide +kernel, by decide +kernel, by decide +kernel, by decide +kernel, by decide +kernel⟩
theorem wlc_C_versions : Cond.code yX7_versions cX7_versions 2 (some .int) ∈ nx_TB := nx_mem 552 (by decide +kernel) (by decide +kernel)
theorem wll_C_versions : Cond.methodLink RL 61 yX7_versions ∈ nx_TB := nx_mem 549 (by decide +kernel) (by decide +kernel)
theorem wlm_C_versions : Cond.instanceMethod yX7_versions ∈ nx_TB := nx_mem 550 (by decide +kernel) (by decide +kernel)
theorem wls_C_versions : Cond.selects yX7_versions.cls yX7_versions yX7_versions ∈ nx_TB := nx_mem 551 (by decide +kernel) (by decide +kernel)
theorem cwl_C_versions : nx_CW RL 61 yX7_versions cX7_versions 2 (some .int) 1 := ⟨wlc_C_versions, wl_i7, ⟨by decide +kernel, by decide +kernel⟩, by decide +kernel, Nat.le_of_ble_eq_true rfl, Or.inl wll_C_versions⟩
theorem cvl_C_versions : nx_CV yX7_versions 7 := ⟨wlm_C_versions, wls_C_versions, TX7, 12, rfl⟩
theorem dL_542 : decode code 542 = .ok (.invokevirtual 61, 3) := by decide +kernel
theorem dL_545 : decode code 545 = .ok (.aload_n 2, 1) := by decide +kernel
theorem aL_546 : argD 546 ((1 : Nat) : Int) := ⟨by decide +kernel, by decide +kernel, by decide +kernel, by decide +kernel, by decide +kernel⟩
theorem wlc_M_versions : Cond.code yX8_versions cX8_versions 2 (some .int) ∈ nx_TB := nx_mem 1600 (by decide +kernel) (by decide +kernel)
theorem wll_M_versions : Cond.methodLink RL 64 yX8_versions ∈ nx_TB := nx_mem 1597 (by decide +kernel) (by decide +kernel)
theorem wlm_M_versions : Cond.instanceMethod yX8_versions ∈ nx_TB := nx_mem 1598 (by decide +kernel) (by decide +kernel)
theorem wls_M_versions : Cond.selects yX8_versions.cls yX8_versions yX8_versions ∈ nx_TB := nx_mem 1599 (by decide +kernel) (by decide +kernel)
theorem cwl_M_versions : nx_CW RL 64 yX8_versions cX8_versions 2 (some .int) 1 := ⟨wlc_M_versions, wl_i8, ⟨by decide +kernel, by decide +kernel⟩, by decide +kernel, Nat.le_of_ble_eq_true rfl, Or.inl wll_M_versions⟩
theorem cvl_M_versions : nx_CV yX8_versions 8 := ⟨wlm_M_versions, wls_M_versions, TX8, 27, rfl⟩
theorem dL_552 : decode code 552 = .ok (.invokevirtual 64, 3) := by decide +kernel
theorem dL_555 : decode code 555 = .ok (.if_icmp .eq 966, 3) := by decide +kernel
theorem dL_560 : decode code 560 = .ok (.aload_n 1, 1) := by decide +kernel
theorem aL_561 : argD 561 ((1 : Nat) : Int) := ⟨by decide +kernel, by decide +kernel, by decide +kernel, by decide +kernel, by decide +kernel⟩
theorem aL_567 : argD 567 ((2 : Nat) : Int) := ⟨by decide +kernel, by decide +kernel, by decide +kernel, by decide +kernel, by decide +kernel⟩
theorem aL_573 : argD 573 ((3 : Nat) : Int) := ⟨by decide +kernel, by decide +kernel, by decide +kernel, by decide +kernel, by decide +kernel⟩
theorem wlc_C_version : Cond.code yX7_version cX7_version 4 (some .int) ∈ nx_TB := nx_mem 560 (by decide +kernel) (by decide +kernel)
theorem wll_C_version : Cond.methodLink RL 65 yX7_version ∈ nx_TB := nx_mem 557 (by decide +kernel) (by decide +kernel)
theorem wlm_C_version : Cond.instanceMethod yX7_version ∈ nx_TB := nx_mem 558 (by decide +kernel) (by decide +kernel)
theorem wls_C_version : Cond.selects yX7_version.cls yX7_version yX7_version ∈ nx_TB := nx_mem 559 (by decide +kernel) (by decide +kernel)
theorem cwl_C_version : nx_CW RL 65 yX7_version cX7_version 4 (some .int) 3 := ⟨wlc_C_version, wl_i7, ⟨by decide +kernel, by decide +kernel⟩, by decide +kernel, Nat.le_of_ble_eq_true rfl, Or.inl wll_C_version⟩
theorem cvl_C_version : nx_CV yX7_version 7 := ⟨wlm_C_version, wls_C_version, TX7, 12, rfl⟩
theorem dL_579 : decode code 579 = .ok (.invokevirtual 65, 3) := by decide +kernel
theorem dL_582 : decode code 582 = .ok (.aload_n 2, 1) := by decide +kernel
theorem aL_583 : argD 583 ((1 : Nat) : Int) := ⟨by decide +kernel, by decide +kernel, by decide +kernel, by decide +kernel, by decide +kernel⟩
theorem aL_589 : argD 589 ((2 : Nat) : Int) := ⟨by decide +kernel, by decide +kernel, by decide +kernel, by decide +kernel, by decide +kernel⟩
theorem aL_595 : argD 595 ((3 : Nat) : Int) := ⟨by decide +kernel, by decide +kernel, by decide +kernel, by decide +kernel, by decide +kernel⟩
theorem wlc_M_version : Cond.code yX8_version cX8_version 4 (some .int) ∈ nx_TB := nx_mem 1604 (by decide +kernel) (by decide +kernel)
theorem wll_M_version : Cond.methodLink RL 68 yX8_version ∈ nx_TB := nx_mem 1601 (by decide +kernel) (by decide +kernel)
theorem wlm_M_version : Cond.instanceMethod yX8_version ∈ nx_TB := nx_mem 1602 (by decide +kernel) (by decide +kernel)
theorem wls_M_version : Cond.selects yX8_version.cls yX8_version yX8_version ∈ nx_TB := nx_mem 1603 (by decide +kernel) (by decide +kernel)
theorem cwl_M_version : nx_CW RL 68 yX8_version cX8_version 4 (some .int) 3 := ⟨wlc_M_version, wl_i8, ⟨by decide +kernel, by decide +kernel⟩, by decide +kernel, Nat.le_of_ble_eq_true rfl, Or.inl wll_M_version⟩
theorem cvl_M_version : nx_CV yX8_version 8 := ⟨wlm_M_version, wls_M_version, TX8, 27, rfl⟩
theorem dL_601 : decode code 601 = .ok (.invokevirtual 68, 3) := by decide +kernel
theorem dL_604 : decode code 604 = .ok (.if_icmp .eq 917, 3) := by decide +kernel
theorem dL_609 : decode code 609 = .ok (.aload_n 1, 1) := by decide +kernel
theorem aL_610 : argD 610 ((1 : Nat) : Int) := ⟨by decide +kernel, by decide +kernel, by decide +kernel, by decide +kernel, by decide +kernel⟩
theorem aL_616 : argD 616 ((2 : Nat) : Int) := ⟨by decide +kernel, by decide +kernel, by decide +kernel, by decide +kernel, by decide +kernel⟩
theorem wlc_C_open : Cond.code yX7_open cX7_open 3 (some .int) ∈ nx_TB := nx_mem 568 (by decide +kernel) (by decide +kernel)
theorem wll_C_open : Cond.methodLink RL 69 yX7_open ∈ nx_TB := nx_mem 565 (by decide +kernel) (by decide +kernel)
theorem wlm_C_open : Cond.instanceMethod yX7_open ∈ nx_TB := nx_mem 566 (by decide +kernel) (by decide +kernel)
theorem wls_C_open : Cond.selects yX7_open.cls yX7_open yX7_open ∈ nx_TB := nx_mem 567 (by decide +kernel) (by decide +kernel)
theorem cwl_C_open : nx_CW RL 69 yX7_open cX7_open 3 (some .int) 2 := ⟨wlc_C_open, wl_i7, ⟨by decide +kernel, by decide +kernel⟩, by decide +kernel, Nat.le_of_ble_eq_true rfl, Or.inl wll_C_open⟩
theorem cvl_C_open : nx_CV yX7_open 7 := ⟨wlm_C_open, wls_C_open, TX7, 12, rfl⟩
theorem dL_622 : decode code 622 = .ok (.invokevirtual 69, 3) := by decide +kernel
theorem dL_625 : decode code 625 = .ok (.aload_n 2, 1) := by decide +kernel
theorem aL_626 : argD 626 ((1 : Nat) : Int) := ⟨by decide +kernel, by decide +kernel, by decide +kernel, by decide +kernel, by decide +kernel⟩
theorem aL_632 : argD 632 ((2 : Nat) : Int) := ⟨by decide +kernel, by decide +kernel, by decide +kernel, by decide +kernel, by decide +kernel⟩
theorem wlc_M_open : Cond.code yX8_open cX8_open 3 (some .int) ∈ nx_TB := nx_mem 1326 (by decide +kernel) (by decide +kernel)
theorem wll_M_open : Cond.methodLink RL 72 yX8_open ∈ nx_TB := nx_mem 1323 (by decide +kernel) (by decide +kernel)
theorem wlm_M_open : Cond.instanceMethod yX8_open ∈ nx_TB := nx_mem 1324 (by decide +kernel) (by decide +kernel)
theorem wls_M_open : Cond.selects yX8_open.cls yX8_open yX8_open ∈ nx_TB := nx_mem 1325 (by decide +kernel) (by decide +kernel)
theorem cwl_M_open : nx_CW RL 72 yX8_open cX8_open 3 (some .int) 2 := ⟨wlc_M_open, wl_i8, ⟨by decide +kernel, by decide +kernel⟩, by decide +kernel, Nat.le_of_ble_eq_true rfl, Or.inl wll_M_open⟩
theorem cvl_M_open : nx_CV yX8_open 8 := ⟨wlm_M_open, wls_M_open, TX8, 27, rfl⟩
theorem dL_638 : decode code 638 = .ok (.invokevirtual 72, 3) := by decide +kernel
theorem dL_641 : decode code 641 = .ok (.if_icmp .eq 880, 3) := by decide +kernel
theorem dL_646 : decode code 646 = .ok (.aload_n 1, 1) := by decide +kernel
theorem aL_647 : argD 647 ((1 : Nat) : Int) := ⟨by decide +kernel, by decide +kernel, by decide +kernel, by decide +kernel, by decide +kernel⟩
theorem aL_653 : argD 653 ((2 : Nat) : Int) := ⟨by decide +kernel, by decide +kernel, by decide +kernel, by decide +kernel, by decide +kernel⟩
theorem aL_659 : argD 659 ((3 : Nat) : Int) := ⟨by decide +kernel, by decide +kernel, by decide +kernel, by decide +kernel, by decide +kernel⟩
theorem wlc_C_openAt : Cond.code yX7_openAt cX7_openAt 4 (some .int) ∈ nx_TB := nx_mem 756 (by decide +kernel) (by decide +kernel)
theorem wll_C_openAt : Cond.methodLink RL 73 yX7_openAt ∈ nx_TB := nx_mem 753 (by decide +kernel) (by decide +kernel)
theorem wlm_C_openAt : Cond.instanceMethod yX7_openAt ∈ nx_TB := nx_mem 754 (by decide +kernel) (by decide +kernel)
theorem wls_C_openAt : Cond.selects yX7_openAt.cls yX7_openAt yX7_openAt ∈ nx_TB := nx_mem 755 (by decide +kernel) (by decide +kernel)
theorem cwl_C_openAt : nx_CW RL 73 yX7_openAt cX7_openAt 4 (some .int) 3 := ⟨wlc_C_openAt, wl_i7, ⟨by decide +kernel, by decide +kernel⟩, by decide +kernel, Nat.le_of_ble_eq_true rfl, Or.inl wll_C_openAt⟩
theorem cvl_C_openAt : nx_CV yX7_openAt 7 := ⟨wlm_C_openAt, wls_C_openAt, TX7, 12, rfl⟩
theorem dL_665 : decode code 665 = .ok (.invokevirtual 73, 3) := by decide +kernel
theorem dL_668 : decode code 668 = .ok (.aload_n 2, 1) := by decide +kernel
theorem aL_669 : argD 669 ((1 : Nat) : Int) := ⟨by decide +kernel, by decide +kernel, by decide +kernel, by decide +kernel, by decide +kernel⟩
theorem aL_675 : argD 675 ((2 : Nat) : Int) := ⟨by decide +kernel, by decide +kernel, by decide +kernel, by decide +kernel, by decide +kernel⟩
theorem aL_681 : argD 681 ((3 : Nat) : Int) := ⟨by decide +kernel, by decide +kernel, by decide +kernel, by decide +kernel, by decide +kernel⟩
theorem wlc_M_openAt : Cond.code yX8_openAt cX8_openAt 4 (some .int) ∈ nx_TB := nx_mem 1373 (by decide +kernel) (by decide +kernel)
theorem wll_M_openAt : Cond.methodLink RL 76 yX8_openAt ∈ nx_TB := nx_mem 1370 (by decide +kernel) (by decide +kernel)
theorem wlm_M_openAt : Cond.instanceMethod yX8_openAt ∈ nx_TB := nx_mem 1371 (by decide +kernel) (by decide +kernel)
theorem wls_M_openAt : Cond.selects yX8_openAt.cls yX8_openAt yX8_openAt ∈ nx_TB := nx_mem 1372 (by decide +kernel) (by decide +kernel)
theorem cwl_M_openAt : nx_CW RL 76 yX8_openAt cX8_openAt 4 (some .int) 3 := ⟨wlc_M_openAt, wl_i8, ⟨by decide +kernel, by decide +kernel⟩, by decide +kernel, Nat.le_of_ble_eq_true rfl, Or.inl wll_M_openAt⟩
theorem cvl_M_openAt : nx_CV yX8_openAt 8 := ⟨wlm_M_openAt, wls_M_openAt, TX8, 27, rfl⟩
theorem dL_687 : decode code 687 = .ok (.invokevirtual 76, 3) := by decide +kernel
theorem dL_690 : decode code 690 = .ok (.if_icmp .eq 831, 3) := by decide +kernel
theorem dL_695 : decode code 695 = .ok (.aload_n 1, 1) := by decide +kernel
theorem aL_696 : argD 696 ((1 : Nat) : Int) := ⟨by decide +kernel, by decide +kernel, by decide +kernel, by decide +kernel, by decide +kernel⟩
theorem aL_702 : argD 702 ((2 : Nat) : Int) := ⟨by decide +kernel, by decide +kernel, by decide +kernel, by decide +kernel, by decide +kernel⟩
theorem wlc_C_read : Cond.code yX7_read cX7_read 3 (some .int) ∈ nx_TB := nx_mem 760 (by decide +kernel) (by decide +kernel)
theorem wll_C_read : Cond.methodLink RL 77 yX7_read ∈ nx_TB := nx_mem 757 (by decide +kernel) (by decide +kernel)
theorem wlm_C_read : Cond.instanceMethod yX7_read ∈ nx_TB := nx_mem 758 (by decide +kernel) (by decide +kernel)
theorem wls_C_read : Cond.selects yX7_read.cls yX7_read yX7_read ∈ nx_TB := nx_mem 759 (by decide +kernel) (by decide +kernel)
theorem cwl_C_read : nx_CW RL 77 yX7_read cX7_read 3 (some .int) 2 := ⟨wlc_C_read, wl_i7, ⟨by decide +kernel, by decide +kernel⟩, by decide +kernel, Nat.le_of_ble_eq_true rfl, Or.inl wll_C_read⟩
theorem cvl_C_read : nx_CV yX7_read 7 := ⟨wlm_C_read, wls_C_read, TX7, 12, rfl⟩
theorem dL_708 : decode code 708 = .ok (.invokevirtual 77, 3) := by decide +kernel
theorem dL_711 : decode code 711 = .ok (.aload_n 2, 1) := by decide +kernel
theorem aL_712 : argD 712 ((1 : Nat) : Int) := ⟨by decide +kernel, by decide +kernel, by decide +kernel, by decide +kernel, by decide +kernel⟩
theorem aL_718 : argD 718 ((2 : Nat) : Int) := ⟨by decide +kernel, by decide +kernel, by decide +kernel, by decide +kernel, by decide +kernel⟩
theorem wlc_M_read : Cond.code yX8_read cX8_read 3 (some .int) ∈ nx_TB := nx_mem 1389 (by decide +kernel) (by decide +kernel)
theorem wll_M_read : Cond.methodLink RL 80 yX8_read ∈ nx_TB := nx_mem 1386 (by decide +kernel) (by decide +kernel)
theorem wlm_M_read : Cond.instanceMethod yX8_read ∈ nx_TB := nx_mem 1387 (by decide +kernel) (by decide +kernel)
theorem wls_M_read : Cond.selects yX8_read.cls yX8_read yX8_read ∈ nx_TB := nx_mem 1388 (by decide +kernel) (by decide +kernel)
theorem cwl_M_read : nx_CW RL 80 yX8_read cX8_read 3 (some .int) 2 := ⟨wlc_M_read, wl_i8, ⟨by decide +kernel, by decide +kernel⟩, by decide +kernel, Nat.le_of_ble_eq_true rfl, Or.inl wll_M_read⟩
theorem cvl_M_read : nx_CV yX8_read 8 := ⟨wlm_M_read, wls_M_read, TX8, 27, rfl⟩
theorem dL_724 : decode code 724 = .ok (.invokevirtual 80, 3) := by decide +kernel
theorem dL_727 : decode code 727 = .ok (.if_icmp .eq 794, 3) := by decide +kernel
theorem dL_732 : decode code 732 = .ok (.aload_n 1, 1) := by decide +kernel
theorem aL_733 : argD 733 ((1 : Nat) : Int) := ⟨by decide +kernel, by decide +kernel, by decide +kernel, by decide +kernel, by decide +kernel⟩
theorem aL_739 : argD 739 ((2 : Nat) : Int) := ⟨by decide +kernel, by decide +kernel, by decide +kernel, by decide +kernel, by decide +kernel⟩
theorem aL_745 : argD 745 ((3 : Nat) : Int) := ⟨by decide +kernel, by decide +kernel, by decide +kernel, by decide +kernel, by decide +kernel⟩
theorem wlc_C_write : Cond.code yX7_write cX7_write 4 (some .int) ∈ nx_TB := nx_mem 764 (by decide +kernel) (by decide +kernel)
theorem wll_C_write : Cond.methodLink RL 81 yX7_write ∈ nx_TB := nx_mem 761 (by decide +kernel) (by decide +kernel)
theorem wlm_C_write : Cond.instanceMethod yX7_write ∈ nx_TB := nx_mem 762 (by decide +kernel) (by decide +kernel)
theorem wls_C_write : Cond.selects yX7_write.cls yX7_write yX7_write ∈ nx_TB := nx_mem 763 (by decide +kernel) (by decide +kernel)
theorem cwl_C_write : nx_CW RL 81 yX7_write cX7_write 4 (some .int) 3 := ⟨wlc_C_write, wl_i7, ⟨by decide +kernel, by decide +kernel⟩, by decide +kernel, Nat.le_of_ble_eq_true rfl, Or.inl wll_C_write⟩
theorem cvl_C_write : nx_CV yX7_write 7 := ⟨wlm_C_write, wls_C_write, TX7, 12, rfl⟩
theorem dL_751 : decode code 751 = .ok (.invokevirtual 81, 3) := by decide +kernel
theorem dL_754 : decode code 754 = .ok (.aload_n 2, 1) := by decide +kernel
theorem aL_755 : argD 755 ((1 : Nat) : Int) := ⟨by decide +kernel, by decide +kernel, by decide +kernel, by decide +kernel, by decide +kernel⟩
theorem aL_761 : argD 761 ((2 : Nat) : Int) := ⟨by decide +kernel, by decide +kernel, by decide +kernel, by decide +kernel, by decide +kernel⟩
theorem aL_767 : argD 767 ((3 : Nat) : Int) := ⟨by decide +kernel, by decide +kernel, by decide +kernel, by decide +kernel, by decide +kernel⟩
theorem wlc_M_write : Cond.code yX8_write cX8_write 4 (some .int) ∈ nx_TB := nx_mem 1438 (by decide +kernel) (by decide +kernel)
theorem wll_M_write : Cond.methodLink RL 84 yX8_write ∈ nx_TB := nx_mem 1435 (by decide +kernel) (by decide +kernel)
theorem wlm_M_write : Cond.instanceMethod yX8_write ∈ nx_TB := nx_mem 1436 (by decide +kernel) (by decide +kernel)
theorem wls_M_write : Cond.selects yX8_write.cls yX8_write yX8_write ∈ nx_TB := nx_mem 1437 (by decide +kernel) (by decide +kernel)
theorem cwl_M_write : nx_CW RL 84 yX8_write cX8_write 4 (some .int) 3 := ⟨wlc_M_write, wl_i8, ⟨by decide +kernel, by decide +kernel⟩, by decide +kernel, Nat.le_of_ble_eq_true rfl, Or.inl wll_M_write⟩
theorem cvl_M_write : nx_CV yX8_write 8 := ⟨wlm_M_write, wls_M_write, TX8, 27, rfl⟩
theorem dL_773 : decode code 773 = .ok (.invokevirtual 84, 3) := by decide +kernel
theorem dL_776 : decode code 776 = .ok (.if_icmp .eq 745, 3) := by decide +kernel
theorem dL_781 : decode code 781 = .ok (.aload_n 1, 1) := by decide +kernel
theorem aL_782 : argD 782 ((1 : Nat) : Int) := ⟨by decide +kernel, by decide +kernel, by decide +kernel, by decide +kernel, by decide +kernel⟩
theorem wlc_C_commit : Cond.code yX7_commit cX7_commit 2 (some .int) ∈ nx_TB := nx_mem 768 (by decide +kernel) (by decide +kernel)
theorem wll_C_commit : Cond.methodLink RL 85 yX7_commit ∈ nx_TB := nx_mem 765 (by decide +kernel) (by decide +kernel)
theorem wlm_C_commit : Cond.instanceMethod yX7_commit ∈ nx_TB := nx_mem 766 (by decide +kernel) (by decide +kernel)
theorem wls_C_commit : Cond.selects yX7_commit.cls yX7_commit yX7_commit ∈ nx_TB := nx_mem 767 (by decide +kernel) (by decide +kernel)
theorem cwl_C_commit : nx_CW RL 85 yX7_commit cX7_commit 2 (some .int) 1 := ⟨wlc_C_commit, wl_i7, ⟨by decide +kernel, by decide +kernel⟩, by decide +kernel, Nat.le_of_ble_eq_true rfl, Or.inl wll_C_commit⟩
theorem cvl_C_commit : nx_CV yX7_commit 7 := ⟨wlm_C_commit, wls_C_commit, TX7, 12, rfl⟩
theorem dL_788 : decode code 788 = .ok (.invokevirtual 85, 3) := by decide +kernel
theorem dL_791 : decode code 791 = .ok (.aload_n 2, 1) := by decide +kernel
theorem aL_792 : argD 792 ((1 : Nat) : Int) := ⟨by decide +kernel, by decide +kernel, by decide +kernel, by decide +kernel, by decide +kernel⟩
theorem wlc_M_commit : Cond.code yX8_commit cX8_commit 2 (some .int) ∈ nx_TB := nx_mem 1478 (by decide +kernel) (by decide +kernel)
theorem wll_M_commit : Cond.methodLink RL 88 yX8_commit ∈ nx_TB := nx_mem 1475 (by decide +kernel) (by decide +kernel)
theorem wlm_M_commit : Cond.instanceMethod yX8_commit ∈ nx_TB := nx_mem 1476 (by decide +kernel) (by decide +kernel)
theorem wls_M_commit : Cond.selects yX8_commit.cls yX8_commit yX8_commit ∈ nx_TB := nx_mem 1477 (by decide +kernel) (by decide +kernel)
theorem cwl_M_commit : nx_CW RL 88 yX8_commit cX8_commit 2 (some .int) 1 := ⟨wlc_M_commit, wl_i8, ⟨by decide +kernel, by decide +kernel⟩, by decide +kernel, Nat.le_of_ble_eq_true rfl, Or.inl wll_M_commit⟩
theorem cvl_M_commit : nx_CV yX8_commit 8 := ⟨wlm_M_commit, wls_M_commit, TX8, 27, rfl⟩
theorem dL_798 : decode code 798 = .ok (.invokevirtual 88, 3) := by decide +kernel
theorem dL_801 : decode code 801 = .ok (.if_icmp .eq 720, 3) := by decide +kernel
theorem dL_806 : decode code 806 = .ok (.aload_n 1, 1) := by decide +kernel
theorem aL_807 : argD 807 ((1 : Nat) : Int) := ⟨by decide +kernel, by decide +kernel, by decide +kernel, by decide +kernel, by decide +kernel⟩
theorem wlc_C_abort : Cond.code yX7_abort cX7_abort 2 (some .int) ∈ nx_TB := nx_mem 772 (by decide +kernel) (by decide +kernel)
theorem wll_C_abort : Cond.methodLink RL 89 yX7_abort ∈ nx_TB := nx_mem 769 (by decide +kernel) (by decide +kernel)
theorem wlm_C_abort : Cond.instanceMethod yX7_abort ∈ nx_TB := nx_mem 770 (by decide +kernel) (by decide +kernel)
theorem wls_C_abort : Cond.selects yX7_abort.cls yX7_abort yX7_abort ∈ nx_TB := nx_mem 771 (by decide +kernel) (by decide +kernel)
theorem cwl_C_abort : nx_CW RL 89 yX7_abort cX7_abort 2 (some .int) 1 := ⟨wlc_C_abort, wl_i7, ⟨by decide +kernel, by decide +kernel⟩, by decide +kernel, Nat.le_of_ble_eq_true rfl, Or.inl wll_C_abort⟩
theorem cvl_C_abort : nx_CV yX7_abort 7 := ⟨wlm_C_abort, wls_C_abort, TX7, 12, rfl⟩
theorem dL_813 : decode code 813 = .ok (.invokevirtual 89, 3) := by decide +kernel
theorem dL_816 : decode code 816 = .ok (.aload_n 2, 1) := by decide +kernel
theorem aL_817 : argD 817 ((1 : Nat) : Int) := ⟨by decide +kernel, by decide +kernel, by decide +kernel, by decide +kernel, by decide +kernel⟩
theorem wlc_M_abort : Cond.code yX8_abort cX8_abort 2 (some .int) ∈ nx_TB := nx_mem 1521 (by decide +kernel) (by decide +kernel)
theorem wll_M_abort : Cond.methodLink RL 92 yX8_abort ∈ nx_TB := nx_mem 1518 (by decide +kernel) (by decide +kernel)
theorem wlm_M_abort : Cond.instanceMethod yX8_abort ∈ nx_TB := nx_mem 1519 (by decide +kernel) (by decide +kernel)
theorem wls_M_abort : Cond.selects yX8_abort.cls yX8_abort yX8_abort ∈ nx_TB := nx_mem 1520 (by decide +kernel) (by decide +kernel)
theorem cwl_M_abort : nx_CW RL 92 yX8_abort cX8_abort 2 (some .int) 1 := ⟨wlc_M_abort, wl_i8, ⟨by decide +kernel, by decide +kernel⟩, by decide +kernel, Nat.le_of_ble_eq_true rfl, Or.inl wll_M_abort⟩
theorem cvl_M_abort : nx_CV yX8_abort 8 := ⟨wlm_M_abort, wls_M_abort, TX8, 27, rfl⟩
theorem dL_823 : decode code 823 = .ok (.invokevirtual 92, 3) := by decide +kernel
theorem dL_826 : decode code 826 = .ok (.if_icmp .eq 695, 3) := by decide +kernel
theorem dL_831 : decode code 831 = .ok (.aload_n 1, 1) := by decide +kernel
theorem aL_832 : argD 832 ((1 : Nat) : Int) := ⟨by decide +kernel, by decide +kernel, by decide +kernel, by decide +kernel, by decide +kernel⟩
theorem wlc_C_retry : Cond.code yX7_retry cX7_retry 2 (some .int) ∈ nx_TB := nx_mem 776 (by decide +kernel) (by decide +kernel)
theorem wll_C_retry : Cond.methodLink RL 93 yX7_retry ∈ nx_TB := nx_mem 773 (by decide +kernel) (by decide +kernel)
theorem wlm_C_retry : Cond.instanceMethod yX7_retry ∈ nx_TB := nx_mem 774 (by decide +kernel) (by decide +kernel)
theorem wls_C_retry : Cond.selects yX7_retry.cls yX7_retry yX7_retry ∈ nx_TB := nx_mem 775 (by decide +kernel) (by decide +kernel)
theorem cwl_C_retry : nx_CW RL 93 yX7_retry cX7_retry 2 (some .int) 1 := ⟨wlc_C_retry, wl_i7, ⟨by decide +kernel, by decide +kernel⟩, by decide +kernel, Nat.le_of_ble_eq_true rfl, Or.inl wll_C_retry⟩
theorem cvl_C_retry : nx_CV yX7_retry 7 := ⟨wlm_C_retry, wls_C_retry, TX7, 12, rfl⟩
theorem dL_838 : decode code 838 = .ok (.invokevirtual 93, 3) := by decide +kernel
theorem dL_841 : decode code 841 = .ok (.aload_n 2, 1) := by decide +kernel
theorem aL_842 : argD 842 ((1 : Nat) : Int) := ⟨by decide +kernel, by decide +kernel, by decide +kernel, by decide +kernel, by decide +kernel⟩
theorem wlc_M_retry : Cond.code yX8_retry cX8_retry 2 (some .int) ∈ nx_TB := nx_mem 1529 (by decide +kernel) (by decide +kernel)
theorem wll_M_retry : Cond.methodLink RL 96 yX8_retry ∈ nx_TB := nx_mem 1526 (by decide +kernel) (by decide +kernel)
theorem wlm_M_retry : Cond.instanceMethod yX8_retry ∈ nx_TB := nx_mem 1527 (by decide +kernel) (by decide +kernel)
theorem wls_M_retry : Cond.selects yX8_retry.cls yX8_retry yX8_retry ∈ nx_TB := nx_mem 1528 (by decide +kernel) (by decide +kernel)
theorem cwl_M_retry : nx_CW RL 96 yX8_retry cX8_retry 2 (some .int) 1 := ⟨wlc_M_retry, wl_i8, ⟨by decide +kernel, by decide +kernel⟩, by decide +kernel, Nat.le_of_ble_eq_true rfl, Or.inl wll_M_retry⟩
theorem cvl_M_retry : nx_CV yX8_retry 8 := ⟨wlm_M_retry, wls_M_retry, TX8, 27, rfl⟩
theorem dL_848 : decode code 848 = .ok (.invokevirtual 96, 3) := by decide +kernel
theorem dL_851 : decode code 851 = .ok (.if_icmp .eq 670, 3) := by decide +kernel
theorem dL_856 : decode code 856 = .ok (.aload_n 1, 1) := by decide +kernel
theorem wlc_C_prune : Cond.code yX7_prune cX7_prune 1 (some .int) ∈ nx_TB := nx_mem 789 (by decide +kernel) (by decide +kernel)
theorem wll_C_prune : Cond.methodLink RL 97 yX7_prune ∈ nx_TB := nx_mem 786 (by decide +kernel) (by decide +kernel)
theorem wlm_C_prune : Cond.instanceMethod yX7_prune ∈ nx_TB := nx_mem 787 (by decide +kernel) (by decide +kernel)
theorem wls_C_prune : Cond.selects yX7_prune.cls yX7_prune yX7_prune ∈ nx_TB := nx_mem 788 (by decide +kernel) (by decide +kernel)
theorem cwl_C_prune : nx_CW RL 97 yX7_prune cX7_prune 1 (some .int) 0 := ⟨wlc_C_prune, wl_i7, ⟨by decide +kernel, by decide +kernel⟩, by decide +kernel, Nat.le_of_ble_eq_true rfl, Or.inl wll_C_prune⟩
theorem cvl_C_prune : nx_CV yX7_prune 7 := ⟨wlm_C_prune, wls_C_prune, TX7, 12, rfl⟩
theorem dL_857 : decode code 857 = .ok (.invokevirtual 97, 3) := by decide +kernel
theorem dL_860 : decode code 860 = .ok (.aload_n 2, 1) := by decide +kernel
theorem wlc_M_prune : Cond.code yX8_prune cX8_prune 1 (some .int) ∈ nx_TB := nx_mem 1541 (by decide +kernel) (by decide +kernel)
theorem wll_M_prune : Cond.methodLink RL 100 yX8_prune ∈ nx_TB := nx_mem 1538 (by decide +kernel) (by decide +kernel)
theorem wlm_M_prune : Cond.instanceMethod yX8_prune ∈ nx_TB := nx_mem 1539 (by decide +kernel) (by decide +kernel)
theorem wls_M_prune : Cond.selects yX8_prune.cls yX8_prune yX8_prune ∈ nx_TB := nx_mem 1540 (by decide +kernel) (by decide +kernel)
theorem cwl_M_prune : nx_CW RL 100 yX8_prune cX8_prune 1 (some .int) 0 := ⟨wlc_M_prune, wl_i8, ⟨by decide +kernel, by decide +kernel⟩, by decide +kernel, Nat.le_of_ble_eq_true rfl, Or.inl wll_M_prune⟩
theorem cvl_M_prune : nx_CV yX8_prune 8 := ⟨wlm_M_prune, wls_M_prune, TX8, 27, rfl⟩
theorem dL_861 : decode code 861 = .ok (.invokevirtual 100, 3) := by decide +kernel
theorem dL_864 : decode code 864 = .ok (.if_icmp .eq 657, 3) := by decide +kernel
theorem dL_869 : decode code 869 = .ok (.aload_n 1, 1) := by decide +kernel
theorem aL_870 : argD 870 ((1 : Nat) : Int) := ⟨by decide +kernel, by decide +kernel, by decide +kernel, by decide +kernel, by decide +kernel⟩
theorem aL_876 : argD 876 ((2 : Nat) : Int) := ⟨by decide +kernel, by decide +kernel, by decide +kernel, by decide +kernel, by decide +kernel⟩
theorem dL_882 : decode code 882 = .ok (.i2l, 1) := by decide +kernel
theorem dL_883 : decode code 883 = .ok (.bipush 32, 2) := by decide +kernel
theorem dL_885 : decode code 885 = .ok (.lshl, 1) := by decide +kernel
theorem aL_886 : argD 886 ((3 : Nat) : Int) := ⟨by decide +kernel, by decide +kernel, by decide +kernel, by decide +kernel, by decide +kernel⟩
theorem dL_892 : decode code 892 = .ok (.i2l, 1) := by decide +kernel
theorem dL_893 : decode code 893 = .ok (.ldc2_w 101, 3) := by decide +kernel
theorem dL_896 : decode code 896 = .ok (.land, 1) := by decide +kernel
theorem dL_897 : decode code 897 = .ok (.lor, 1) := by decide +kernel
theorem wlc_C_years : Cond.code yX7_years cX7_years 5 (some .int) ∈ nx_TB := nx_mem 793 (by decide +kernel) (by decide +kernel)
theorem wll_C_years : Cond.methodLink RL 103 yX7_years ∈ nx_TB := nx_mem 790 (by decide +kernel) (by decide +kernel)
theorem wlm_C_years : Cond.instanceMethod yX7_years ∈ nx_TB := nx_mem 791 (by decide +kernel) (by decide +kernel)
theorem wls_C_years : Cond.selects yX7_years.cls yX7_years yX7_years ∈ nx_TB := nx_mem 792 (by decide +kernel) (by decide +kernel)
theorem cwl_C_years : nx_CW RL 103 yX7_years cX7_years 5 (some .int) 2 := ⟨wlc_C_years, wl_i7, ⟨by decide +kernel, by decide +kernel⟩, by decide +kernel, Nat.le_of_ble_eq_true rfl, Or.inl wll_C_years⟩
theorem cvl_C_years : nx_CV yX7_years 7 := ⟨wlm_C_years, wls_C_years, TX7, 12, rfl⟩
theorem dL_898 : decode code 898 = .ok (.invokevirtual 103, 3) := by decide +kernel
theorem dL_901 : decode code 901 = .ok (.aload_n 2, 1) := by decide +kernel
theorem aL_902 : argD 902 ((1 : Nat) : Int) := ⟨by decide +kernel, by decide +kernel, by decide +kernel, by decide +kernel, by decide +kernel⟩
theorem aL_908 : argD 908 ((2 : Nat) : Int) := ⟨by decide +kernel, by decide +kernel, by decide +kernel, by decide +kernel, by decide +kernel⟩
theorem dL_914 : decode code 914 = .ok (.i2l, 1) := by decide +kernel
theorem dL_915 : decode code 915 = .ok (.bipush 32, 2) := by decide +kernel
theorem dL_917 : decode code 917 = .ok (.lshl, 1) := by decide +kernel
theorem aL_918 : argD 918 ((3 : Nat) : Int) := ⟨by decide +kernel, by decide +kernel, by decide +kernel, by decide +kernel, by decide +kernel⟩
theorem dL_924 : decode code 924 = .ok (.i2l, 1) := by decide +kernel
theorem dL_925 : decode code 925 = .ok (.ldc2_w 101, 3) := by decide +kernel
theorem dL_928 : decode code 928 = .ok (.land, 1) := by decide +kernel
theorem dL_929 : decode code 929 = .ok (.lor, 1) := by decide +kernel
theorem wlc_M_years : Cond.code yX8_years cX8_years 5 (some .int) ∈ nx_TB := nx_mem 1545 (by decide +kernel) (by decide +kernel)
theorem wll_M_years : Cond.methodLink RL 107 yX8_years ∈ nx_TB := nx_mem 1542 (by decide +kernel) (by decide +kernel)
theorem wlm_M_years : Cond.instanceMethod yX8_years ∈ nx_TB := nx_mem 1543 (by decide +kernel) (by decide +kernel)
theorem wls_M_years : Cond.selects yX8_years.cls yX8_years yX8_years ∈ nx_TB := nx_mem 1544 (by decide +kernel) (by decide +kernel)
theorem cwl_M_years : nx_CW RL 107 yX8_years cX8_years 5 (some .int) 2 := ⟨wlc_M_years, wl_i8, ⟨by decide +kernel, by decide +kernel⟩, by decide +kernel, Nat.le_of_ble_eq_true rfl, Or.inl wll_M_years⟩
theorem cvl_M_years : nx_CV yX8_years 8 := ⟨wlm_M_years, wls_M_years, TX8, 27, rfl⟩
theorem dL_930 : decode code 930 = .ok (.invokevirtual 107, 3) := by decide +kernel
theorem dL_933 : decode code 933 = .ok (.if_icmp .eq 588, 3) := by decide +kernel
theorem dL_938 : decode code 938 = .ok (.aload_n 1, 1) := by decide +kernel
theorem aL_939 : argD 939 ((1 : Nat) : Int) := ⟨by decide +kernel, by decide +kernel, by decide +kernel, by decide +kernel, by decide +kernel⟩
theorem wlc_C_status : Cond.code yX7_status cX7_status 2 (some .int) ∈ nx_TB := nx_mem 819 (by decide +kernel) (by decide +kernel)
theorem wll_C_status : Cond.methodLink RL 108 yX7_status ∈ nx_TB := nx_mem 816 (by decide +kernel) (by decide +kernel)
theorem wlm_C_status : Cond.instanceMethod yX7_status ∈ nx_TB := nx_mem 817 (by decide +kernel) (by decide +kernel)
theorem wls_C_status : Cond.selects yX7_status.cls yX7_status yX7_status ∈ nx_TB := nx_mem 818 (by decide +kernel) (by decide +kernel)
theorem cwl_C_status : nx_CW RL 108 yX7_status cX7_status 2 (some .int) 1 := ⟨wlc_C_status, wl_i7, ⟨by decide +kernel, by decide +kernel⟩, by decide +kernel, Nat.le_of_ble_eq_true rfl, Or.inl wll_C_status⟩
theorem cvl_C_status : nx_CV yX7_status 7 := ⟨wlm_C_status, wls_C_status, TX7, 12, rfl⟩
theorem dL_945 : decode code 945 = .ok (.invokevirtual 108, 3) := by decide +kernel
theorem dL_948 : decode code 948 = .ok (.aload_n 2, 1) := by decide +kernel
theorem aL_949 : argD 949 ((1 : Nat) : Int) := ⟨by decide +kernel, by decide +kernel, by decide +kernel, by decide +kernel, by decide +kernel⟩
theorem wlc_M_status : Cond.code yX8_status cX8_status 2 (some .int) ∈ nx_TB := nx_mem 1571 (by decide +kernel) (by decide +kernel)
theorem wll_M_status : Cond.methodLink RL 111 yX8_status ∈ nx_TB := nx_mem 1568 (by decide +kernel) (by decide +kernel)
theorem wlm_M_status : Cond.instanceMethod yX8_status ∈ nx_TB := nx_mem 1569 (by decide +kernel) (by decide +kernel)
theorem wls_M_status : Cond.selects yX8_status.cls yX8_status yX8_status ∈ nx_TB := nx_mem 1570 (by decide +kernel) (by decide +kernel)
theorem cwl_M_status : nx_CW RL 111 yX8_status cX8_status 2 (some .int) 1 := ⟨wlc_M_status, wl_i8, ⟨by decide +kernel, by decide +kernel⟩, by decide +kernel, Nat.le_of_ble_eq_true rfl, Or.inl wll_M_status⟩
theorem cvl_M_status : nx_CV yX8_status 8 := ⟨wlm_M_status, wls_M_status, TX8, 27, rfl⟩
theorem dL_955 : decode code 955 = .ok (.invokevirtual 111, 3) := by decide +kernel
theorem dL_958 : decode code 958 = .ok (.if_icmp .eq 563, 3) := by decide +kernel
theorem dL_963 : decode code 963 = .ok (.aload_n 1, 1) := by decide +kernel
theorem wlc_C_undo : Cond.code yX7_undo cX7_undo 1 (some .int) ∈ nx_TB := nx_mem 823 (by decide +kernel) (by decide +kernel)
theorem wll_C_undo : Cond.methodLink RL 112 yX7_undo ∈ nx_TB := nx_mem 820 (by decide +kernel) (by decide +kernel)
theorem wlm_C_undo : Cond.instanceMethod yX7_undo ∈ nx_TB := nx_mem 821 (by decide +kernel) (by decide +kernel)
theorem wls_C_undo : Cond.selects yX7_undo.cls yX7_undo yX7_undo ∈ nx_TB := nx_mem 822 (by decide +kernel) (by decide +kernel)
theorem cwl_C_undo : nx_CW RL 112 yX7_undo cX7_undo 1 (some .int) 0 := ⟨wlc_C_undo, wl_i7, ⟨by decide +kernel, by decide +kernel⟩, by decide +kernel, Nat.le_of_ble_eq_true rfl, Or.inl wll_C_undo⟩
theorem cvl_C_undo : nx_CV yX7_undo 7 := ⟨wlm_C_undo, wls_C_undo, TX7, 12, rfl⟩
theorem dL_964 : decode code 964 = .ok (.invokevirtual 112, 3) := by decide +kernel
theorem dL_967 : decode code 967 = .ok (.aload_n 2, 1) := by decide +kernel
theorem wlc_M_undo : Cond.code yX8_undo cX8_undo 2 (some .int) ∈ nx_TB := nx_mem 1575 (by decide +kernel) (by decide +kernel)
theorem wll_M_undo : Cond.methodLink RL 115 yX8_undo ∈ nx_TB := nx_mem 1572 (by decide +kernel) (by decide +kernel)
theorem wlm_M_undo : Cond.instanceMethod yX8_undo ∈ nx_TB := nx_mem 1573 (by decide +kernel) (by decide +kernel)
theorem wls_M_undo : Cond.selects yX8_undo.cls yX8_undo yX8_undo ∈ nx_TB := nx_mem 1574 (by decide +kernel) (by decide +kernel)
theorem cwl_M_undo : nx_CW RL 115 yX8_undo cX8_undo 2 (some .int) 0 := ⟨wlc_M_undo, wl_i8, ⟨by decide +kernel, by decide +kernel⟩, by decide +kernel, Nat.le_of_ble_eq_true rfl, Or.inl wll_M_undo⟩
theorem cvl_M_undo : nx_CV yX8_undo 8 := ⟨wlm_M_undo, wls_M_undo, TX8, 27, rfl⟩
theorem dL_968 : decode code 968 = .ok (.invokevirtual 115, 3) := by decide +kernel
theorem dL_971 : decode code 971 = .ok (.if_icmp .eq 550, 3) := by decide +kernel
theorem dL_976 : decode code 976 = .ok (.aload_n 1, 1) := by decide +kernel
theorem aL_977 : argD 977 ((1 : Nat) : Int) := ⟨by decide +kernel, by decide +kernel, by decide +kernel, by decide +kernel, by decide +kernel⟩
theorem aL_983 : argD 983 ((2 : Nat) : Int) := ⟨by decide +kernel, by decide +kernel, by decide +kernel, by decide +kernel, by decide +kernel⟩
theorem wlc_C_log : Cond.code yX7_log cX7_log 3 (some .int) ∈ nx_TB := nx_mem 831 (by decide +kernel) (by decide +kernel)
theorem wll_C_log : Cond.methodLink RL 116 yX7_log ∈ nx_TB := nx_mem 828 (by decide +kernel) (by decide +kernel)
theorem wlm_C_log : Cond.instanceMethod yX7_log ∈ nx_TB := nx_mem 829 (by decide +kernel) (by decide +kernel)
theorem wls_C_log : Cond.selects yX7_log.cls yX7_log yX7_log ∈ nx_TB := nx_mem 830 (by decide +kernel) (by decide +kernel)
theorem cwl_C_log : nx_CW RL 116 yX7_log cX7_log 3 (some .int) 2 := ⟨wlc_C_log, wl_i7, ⟨by decide +kernel, by decide +kernel⟩, by decide +kernel, Nat.le_of_ble_eq_true rfl, Or.inl wll_C_log⟩
theorem cvl_C_log : nx_CV yX7_log 7 := ⟨wlm_C_log, wls_C_log, TX7, 12, rfl⟩
theorem dL_989 : decode code 989 = .ok (.invokevirtual 116, 3) := by decide +kernel
theorem dL_992 : decode code 992 = .ok (.aload_n 2, 1) := by decide +kernel
theorem aL_993 : argD 993 ((1 : Nat) : Int) := ⟨by decide +kernel, by decide +kernel, by decide +kernel, by decide +kernel, by decide +kernel⟩
theorem aL_999 : argD 999 ((2 : Nat) : Int) := ⟨by decide +kernel, by decide +kernel, by decide +kernel, by decide +kernel, by decide +kernel⟩
theorem wlc_M_log : Cond.code yX8_log cX8_log 3 (some .int) ∈ nx_TB := nx_mem 1579 (by decide +kernel) (by decide +kernel)
theorem wll_M_log : Cond.methodLink RL 119 yX8_log ∈ nx_TB := nx_mem 1576 (by decide +kernel) (by decide +kernel)
theorem wlm_M_log : Cond.instanceMethod yX8_log ∈ nx_TB := nx_mem 1577 (by decide +kernel) (by decide +kernel)
theorem wls_M_log : Cond.selects yX8_log.cls yX8_log yX8_log ∈ nx_TB := nx_mem 1578 (by decide +kernel) (by decide +kernel)
theorem cwl_M_log : nx_CW RL 119 yX8_log cX8_log 3 (some .int) 2 := ⟨wlc_M_log, wl_i8, ⟨by decide +kernel, by decide +kernel⟩, by decide +kernel, Nat.le_of_ble_eq_true rfl, Or.inl wll_M_log⟩
theorem cvl_M_log : nx_CV yX8_log 8 := ⟨wlm_M_log, wls_M_log, TX8, 27, rfl⟩
theorem dL_1005 : decode code 1005 = .ok (.invokevirtual 119, 3) := by decide +kernel
theorem dL_1008 : decode code 1008 = .ok (.if_icmp .eq 513, 3) := by decide +kernel
theorem dL_1013 : decode code 1013 = .ok (.aload_n 1, 1) := by decide +kernel
theorem aL_1014 : argD 1014 ((1 : Nat) : Int) := ⟨by decide +kernel, by decide +kernel, by decide +kernel, by decide +kernel, by decide +kernel⟩
theorem aL_1020 : argD 1020 ((2 : Nat) : Int) := ⟨by decide +kernel, by decide +kernel, by decide +kernel, by decide +kernel, by decide +kernel⟩
theorem aL_1026 : argD 1026 ((3 : Nat) : Int) := ⟨by decide +kernel, by decide +kernel, by decide +kernel, by decide +kernel, by decide +kernel⟩
theorem wlc_C_would : Cond.code yX7_would cX7_would 4 (some .int) ∈ nx_TB := nx_mem 844 (by decide +kernel) (by decide +kernel)
theorem wll_C_would : Cond.methodLink RL 120 yX7_would ∈ nx_TB := nx_mem 841 (by decide +kernel) (by decide +kernel)
theorem wlm_C_would : Cond.instanceMethod yX7_would ∈ nx_TB := nx_mem 842 (by decide +kernel) (by decide +kernel)
theorem wls_C_would : Cond.selects yX7_would.cls yX7_would yX7_would ∈ nx_TB := nx_mem 843 (by decide +kernel) (by decide +kernel)
theorem cwl_C_would : nx_CW RL 120 yX7_would cX7_would 4 (some .int) 3 := ⟨wlc_C_would, wl_i7, ⟨by decide +kernel, by decide +kernel⟩, by decide +kernel, Nat.le_of_ble_eq_true rfl, Or.inl wll_C_would⟩
theorem cvl_C_would : nx_CV yX7_would 7 := ⟨wlm_C_would, wls_C_would, TX7, 12, rfl⟩
theorem dL_1032 : decode code 1032 = .ok (.invokevirtual 120, 3) := by decide +kernel
theorem dL_1035 : decode code 1035 = .ok (.aload_n 2, 1) := by decide +kernel
theorem aL_1036 : argD 1036 ((1 : Nat) : Int) := ⟨by decide +kernel, by decide +kernel, by decide +kernel, by decide +kernel, by decide +kernel⟩
theorem aL_1042 : argD 1042 ((2 : Nat) : Int) := ⟨by decide +kernel, by decide +kernel, by decide +kernel, by decide +kernel, by decide +kernel⟩
theorem aL_1048 : argD 1048 ((3 : Nat) : Int) := ⟨by decide +kernel, by decide +kernel, by decide +kernel, by decide +kernel, by decide +kernel⟩
theorem wlc_M_would : Cond.code yX8_would cX8_would 4 (some .int) ∈ nx_TB := nx_mem 1608 (by decide +kernel) (by decide +kernel)
theorem wll_M_would : Cond.methodLink RL 123 yX8_would ∈ nx_TB := nx_mem 1605 (by decide +kernel) (by decide +kernel)
theorem wlm_M_would : Cond.instanceMethod yX8_would ∈ nx_TB := nx_mem 1606 (by decide +kernel) (by decide +kernel)
theorem wls_M_would : Cond.selects yX8_would.cls yX8_would yX8_would ∈ nx_TB := nx_mem 1607 (by decide +kernel) (by decide +kernel)
theorem cwl_M_would : nx_CW RL 123 yX8_would cX8_would 4 (some .int) 3 := ⟨wlc_M_would, wl_i8, ⟨by decide +kernel, by decide +kernel⟩, by decide +kernel, Nat.le_of_ble_eq_true rfl, Or.inl wll_M_would⟩
theorem cvl_M_would : nx_CV yX8_would 8 := ⟨wlm_M_would, wls_M_would, TX8, 27, rfl⟩
theorem dL_1054 : decode code 1054 = .ok (.invokevirtual 123, 3) := by decide +kernel
theorem dL_1057 : decode code 1057 = .ok (.if_icmp .eq 464, 3) := by decide +kernel
theorem dL_1062 : decode code 1062 = .ok (.aload_n 1, 1) := by decide +kernel
theorem aL_1063 : argD 1063 ((1 : Nat) : Int) := ⟨by decide +kernel, by decide +kernel, by decide +kernel, by decide +kernel, by decide +kernel⟩
theorem aL_1069 : argD 1069 ((2 : Nat) : Int) := ⟨by decide +kernel, by decide +kernel, by decide +kernel, by decide +kernel, by decide +kernel⟩
theorem wlc_C_since : Cond.code yX7_since cX7_since 3 (some .int) ∈ nx_TB := nx_mem 857 (by decide +kernel) (by decide +kernel)
theorem wll_C_since : Cond.methodLink RL 124 yX7_since ∈ nx_TB := nx_mem 854 (by decide +kernel) (by decide +kernel)
theorem wlm_C_since : Cond.instanceMethod yX7_since ∈ nx_TB := nx_mem 855 (by decide +kernel) (by decide +kernel)
theorem wls_C_since : Cond.selects yX7_since.cls yX7_since yX7_since ∈ nx_TB := nx_mem 856 (by decide +kernel) (by decide +kernel)
theorem cwl_C_since : nx_CW RL 124 yX7_since cX7_since 3 (some .int) 2 := ⟨wlc_C_since, wl_i7, ⟨by decide +kernel, by decide +kernel⟩, by decide +kernel, Nat.le_of_ble_eq_true rfl, Or.inl wll_C_since⟩
theorem cvl_C_since : nx_CV yX7_since 7 := ⟨wlm_C_since, wls_C_since, TX7, 12, rfl⟩
theorem dL_1075 : decode code 1075 = .ok (.invokevirtual 124, 3) := by decide +kernel
theorem dL_1078 : decode code 1078 = .ok (.aload_n 2, 1) := by decide +kernel
theorem aL_1079 : argD 1079 ((1 : Nat) : Int) := ⟨by decide +kernel, by decide +kernel, by decide +kernel, by decide +kernel, by decide +kernel⟩
theorem aL_1085 : argD 1085 ((2 : Nat) : Int) := ⟨by decide +kernel, by decide +kernel, by decide +kernel, by decide +kernel, by decide +kernel⟩
theorem wlc_M_since : Cond.code yX8_since cX8_since 6 (some .int) ∈ nx_TB := nx_mem 1612 (by decide +kernel) (by decide +kernel)
theorem wll_M_since : Cond.methodLink RL 127 yX8_since ∈ nx_TB := nx_mem 1609 (by decide +kernel) (by decide +kernel)
theorem wlm_M_since : Cond.instanceMethod yX8_since ∈ nx_TB := nx_mem 1610 (by decide +kernel) (by decide +kernel)
theorem wls_M_since : Cond.selects yX8_since.cls yX8_since yX8_since ∈ nx_TB := nx_mem 1611 (by decide +kernel) (by decide +kernel)
theorem cwl_M_since : nx_CW RL 127 yX8_since cX8_since 6 (some .int) 2 := ⟨wlc_M_since, wl_i8, ⟨by decide +kernel, by decide +kernel⟩, by decide +kernel, Nat.le_of_ble_eq_true rfl, Or.inl wll_M_since⟩
theorem cvl_M_since : nx_CV yX8_since 8 := ⟨wlm_M_since, wls_M_since, TX8, 27, rfl⟩
theorem dL_1091 : decode code 1091 = .ok (.invokevirtual 127, 3) := by decide +kernel
theorem dL_1094 : decode code 1094 = .ok (.if_icmp .eq 427, 3) := by decide +kernel
theorem dL_1099 : decode code 1099 = .ok (.aload_n 1, 1) := by decide +kernel
theorem aL_1100 : argD 1100 ((1 : Nat) : Int) := ⟨by decide +kernel, by decide +kernel, by decide +kernel, by decide +kernel, by decide +kernel⟩
theorem wlc_C_falls : Cond.code yX7_falls cX7_falls 2 (some .int) ∈ nx_TB := nx_mem 865 (by decide +kernel) (by decide +kernel)
theorem wll_C_falls : Cond.methodLink RL 128 yX7_falls ∈ nx_TB := nx_mem 862 (by decide +kernel) (by decide +kernel)
theorem wlm_C_falls : Cond.instanceMethod yX7_falls ∈ nx_TB := nx_mem 863 (by decide +kernel) (by decide +kernel)
theorem wls_C_falls : Cond.selects yX7_falls.cls yX7_falls yX7_falls ∈ nx_TB := nx_mem 864 (by decide +kernel) (by decide +kernel)
theorem cwl_C_falls : nx_CW RL 128 yX7_falls cX7_falls 2 (some .int) 1 := ⟨wlc_C_falls, wl_i7, ⟨by decide +kernel, by decide +kernel⟩, by decide +kernel, Nat.le_of_ble_eq_true rfl, Or.inl wll_C_falls⟩
theorem cvl_C_falls : nx_CV yX7_falls 7 := ⟨wlm_C_falls, wls_C_falls, TX7, 12, rfl⟩
theorem dL_1106 : decode code 1106 = .ok (.invokevirtual 128, 3) := by decide +kernel
theorem dL_1109 : decode code 1109 = .ok (.aload_n 2, 1) := by decide +kernel
theorem aL_1110 : argD 1110 ((1 : Nat) : Int) := ⟨by decide +kernel, by decide +kernel, by decide +kernel, by decide +kernel, by decide +kernel⟩
theorem wlc_M_falls : Cond.code yX8_falls cX8_falls 2 (some .int) ∈ nx_TB := nx_mem 1625 (by decide +kernel) (by decide +kernel)
theorem wll_M_falls : Cond.methodLink RL 131 yX8_falls ∈ nx_TB := nx_mem 1622 (by decide +kernel) (by decide +kernel)
theorem wlm_M_falls : Cond.instanceMethod yX8_falls ∈ nx_TB := nx_mem 1623 (by decide +kernel) (by decide +kernel)
theorem wls_M_falls : Cond.selects yX8_falls.cls yX8_falls yX8_falls ∈ nx_TB := nx_mem 1624 (by decide +kernel) (by decide +kernel)
theorem cwl_M_falls : nx_CW RL 131 yX8_falls cX8_falls 2 (some .int) 1 := ⟨wlc_M_falls, wl_i8, ⟨by decide +kernel, by decide +kernel⟩, by decide +kernel, Nat.le_of_ble_eq_true rfl, Or.inl wll_M_falls⟩
theorem cvl_M_falls : nx_CV yX8_falls 8 := ⟨wlm_M_falls, wls_M_falls, TX8, 27, rfl⟩
theorem dL_1116 : decode code 1116 = .ok (.invokevirtual 131, 3) := by decide +kernel
theorem dL_1119 : decode code 1119 = .ok (.if_icmp .eq 402, 3) := by decide +kernel
theorem dL_1124 : decode code 1124 = .ok (.aload_n 1, 1) := by decide +kernel
theorem aL_1125 : argD 1125 ((1 : Nat) : Int) := ⟨by decide +kernel, by decide +kernel, by decide +kernel, by decide +kernel, by decide +kernel⟩
theorem wlc_C_sures : Cond.code yX7_sures cX7_sures 2 (some .int) ∈ nx_TB := nx_mem 874 (by decide +kernel) (by decide +kernel)
theorem wll_C_sures : Cond.methodLink RL 132 yX7_sures ∈ nx_TB := nx_mem 871 (by decide +kernel) (by decide +kernel)
theorem wlm_C_sures : Cond.instanceMethod yX7_sures ∈ nx_TB := nx_mem 872 (by decide +kernel) (by decide +kernel)
theorem wls_C_sures : Cond.selects yX7_sures.cls yX7_sures yX7_sures ∈ nx_TB := nx_mem 873 (by decide +kernel) (by decide +kernel)
theorem cwl_C_sures : nx_CW RL 132 yX7_sures cX7_sures 2 (some .int) 1 := ⟨wlc_C_sures, wl_i7, ⟨by decide +kernel, by decide +kernel⟩, by decide +kernel, Nat.le_of_ble_eq_true rfl, Or.inl wll_C_sures⟩
theorem cvl_C_sures : nx_CV yX7_sures 7 := ⟨wlm_C_sures, wls_C_sures, TX7, 12, rfl⟩
theorem dL_1131 : decode code 1131 = .ok (.invokevirtual 132, 3) := by decide +kernel
theorem dL_1134 : decode code 1134 = .ok (.aload_n 2, 1) := by decide +kernel
theorem aL_1135 : argD 1135 ((1 : Nat) : Int) := ⟨by decide +kernel, by decide +kernel, by decide +kernel, by decide +kernel, by decide +kernel⟩
theorem wlc_M_sures : Cond.code yX8_sures cX8_sures 4 (some .int) ∈ nx_TB := nx_mem 1633 (by decide +kernel) (by decide +kernel)
theorem wll_M_sures : Cond.methodLink RL 135 yX8_sures ∈ nx_TB := nx_mem 1630 (by decide +kernel) (by decide +kernel)
theorem wlm_M_sures : Cond.instanceMethod yX8_sures ∈ nx_TB := nx_mem 1631 (by decide +kernel) (by decide +kernel)
theorem wls_M_sures : Cond.selects yX8_sures.cls yX8_sures yX8_sures ∈ nx_TB := nx_mem 1632 (by decide +kernel) (by decide +kernel)
theorem cwl_M_sures : nx_CW RL 135 yX8_sures cX8_sures 4 (some .int) 1 := ⟨wlc_M_sures, wl_i8, ⟨by decide +kernel, by decide +kernel⟩, by decide +kernel, Nat.le_of_ble_eq_true rfl, Or.inl wll_M_sures⟩
theorem cvl_M_sures : nx_CV yX8_sures 8 := ⟨wlm_M_sures, wls_M_sures, TX8, 27, rfl⟩
theorem dL_1141 : decode code 1141 = .ok (.invokevirtual 135, 3) := by decide +kernel
theorem dL_1144 : decode code 1144 = .ok (.if_icmp .eq 377, 3) := by decide +kernel
theorem dL_1149 : decode code 1149 = .ok (.aload_n 1, 1) := by decide +kernel
theorem aL_1150 : argD 1150 ((1 : Nat) : Int) := ⟨by decide +kernel, by decide +kernel, by decide +kernel, by decide +kernel, by decide +kernel⟩
theorem wlc_C_retries : Cond.code yX7_retries cX7_retries 2 (some .int) ∈ nx_TB := nx_mem 896 (by decide +kernel) (by decide +kernel)
theorem wll_C_retries : Cond.methodLink RL 136 yX7_retries ∈ nx_TB := nx_mem 893 (by decide +kernel) (by decide +kernel)
theorem wlm_C_retries : Cond.instanceMethod yX7_retries ∈ nx_TB := nx_mem 894 (by decide +kernel) (by decide +kernel)
theorem wls_C_retries : Cond.selects yX7_retries.cls yX7_retries yX7_retries ∈ nx_TB := nx_mem 895 (by decide +kernel) (by decide +kernel)
theorem cwl_C_retries : nx_CW RL 136 yX7_retries cX7_retries 2 (some .int) 1 := ⟨wlc_C_retries, wl_i7, ⟨by decide +kernel, by decide +kernel⟩, by decide +kernel, Nat.le_of_ble_eq_true rfl, Or.inl wll_C_retries⟩
theorem cvl_C_retries : nx_CV yX7_retries 7 := ⟨wlm_C_retries, wls_C_retries, TX7, 12, rfl⟩
theorem dL_1156 : decode code 1156 = .ok (.invokevirtual 136, 3) := by decide +kernel
theorem dL_1159 : decode code 1159 = .ok (.aload_n 2, 1) := by decide +kernel
theorem aL_1160 : argD 1160 ((1 : Nat) : Int) := ⟨by decide +kernel, by decide +kernel, by decide +kernel, by decide +kernel, by decide +kernel⟩
theorem wlc_M_retries : Cond.code yX8_retries cX8_retries 4 (some .int) ∈ nx_TB := nx_mem 1645 (by decide +kernel) (by decide +kernel)
theorem wll_M_retries : Cond.methodLink RL 139 yX8_retries ∈ nx_TB := nx_mem 1642 (by decide +kernel) (by decide +kernel)
theorem wlm_M_retries : Cond.instanceMethod yX8_retries ∈ nx_TB := nx_mem 1643 (by decide +kernel) (by decide +kernel)
theorem wls_M_retries : Cond.selects yX8_retries.cls yX8_retries yX8_retries ∈ nx_TB := nx_mem 1644 (by decide +kernel) (by decide +kernel)
theorem cwl_M_retries : nx_CW RL 139 yX8_retries cX8_retries 4 (some .int) 1 := ⟨wlc_M_retries, wl_i8, ⟨by decide +kernel, by decide +kernel⟩, by decide +kernel, Nat.le_of_ble_eq_true rfl, Or.inl wll_M_retries⟩
theorem cvl_M_retries : nx_CV yX8_retries 8 := ⟨wlm_M_retries, wls_M_retries, TX8, 27, rfl⟩
theorem dL_1166 : decode code 1166 = .ok (.invokevirtual 139, 3) := by decide +kernel
theorem dL_1169 : decode code 1169 = .ok (.if_icmp .eq 352, 3) := by decide +kernel
theorem dL_1174 : decode code 1174 = .ok (.aload_n 1, 1) := by decide +kernel
theorem aL_1175 : argD 1175 ((1 : Nat) : Int) := ⟨by decide +kernel, by decide +kernel, by decide +kernel, by decide +kernel, by decide +kernel⟩
theorem aL_1181 : argD 1181 ((2 : Nat) : Int) := ⟨by decide +kernel, by decide +kernel, by decide +kernel, by decide +kernel, by decide +kernel⟩
theorem wlc_C_asOf : Cond.code yX7_asOf cX7_asOf 3 (some .int) ∈ nx_TB := nx_mem 907 (by decide +kernel) (by decide +kernel)
theorem wll_C_asOf : Cond.methodLink RL 140 yX7_asOf ∈ nx_TB := nx_mem 904 (by decide +kernel) (by decide +kernel)
theorem wlm_C_asOf : Cond.instanceMethod yX7_asOf ∈ nx_TB := nx_mem 905 (by decide +kernel) (by decide +kernel)
theorem wls_C_asOf : Cond.selects yX7_asOf.cls yX7_asOf yX7_asOf ∈ nx_TB := nx_mem 906 (by decide +kernel) (by decide +kernel)
theorem cwl_C_asOf : nx_CW RL 140 yX7_asOf cX7_asOf 3 (some .int) 2 := ⟨wlc_C_asOf, wl_i7, ⟨by decide +kernel, by decide +kernel⟩, by decide +kernel, Nat.le_of_ble_eq_true rfl, Or.inl wll_C_asOf⟩
theorem cvl_C_asOf : nx_CV yX7_asOf 7 := ⟨wlm_C_asOf, wls_C_asOf, TX7, 12, rfl⟩
theorem dL_1187 : decode code 1187 = .ok (.invokevirtual 140, 3) := by decide +kernel
theorem dL_1190 : decode code 1190 = .ok (.aload_n 2, 1) := by decide +kernel
theorem aL_1191 : argD 1191 ((1 : Nat) : Int) := ⟨by decide +kernel, by decide +kernel, by decide +kernel, by decide +kernel, by decide +kernel⟩
theorem aL_1197 : argD 1197 ((2 : Nat) : Int) := ⟨by decide +kernel, by decide +kernel, by decide +kernel, by decide +kernel, by decide +kernel⟩
theorem wlc_M_asOf : Cond.code yX8_asOf cX8_asOf 5 (some .int) ∈ nx_TB := nx_mem 1649 (by decide +kernel) (by decide +kernel)
theorem wll_M_asOf : Cond.methodLink RL 143 yX8_asOf ∈ nx_TB := nx_mem 1646 (by decide +kernel) (by decide +kernel)
theorem wlm_M_asOf : Cond.instanceMethod yX8_asOf ∈ nx_TB := nx_mem 1647 (by decide +kernel) (by decide +kernel)
theorem wls_M_asOf : Cond.selects yX8_asOf.cls yX8_asOf yX8_asOf ∈ nx_TB := nx_mem 1648 (by decide +kernel) (by decide +kernel)
theorem cwl_M_asOf : nx_CW RL 143 yX8_asOf cX8_asOf 5 (some .int) 2 := ⟨wlc_M_asOf, wl_i8, ⟨by decide +kernel, by decide +kernel⟩, by decide +kernel, Nat.le_of_ble_eq_true rfl, Or.inl wll_M_asOf⟩
theorem cvl_M_asOf : nx_CV yX8_asOf 8 := ⟨wlm_M_asOf, wls_M_asOf, TX8, 27, rfl⟩
theorem dL_1203 : decode code 1203 = .ok (.invokevirtual 143, 3) := by decide +kernel
theorem dL_1206 : decode code 1206 = .ok (.if_icmp .eq 315, 3) := by decide +kernel
theorem dL_1211 : decode code 1211 = .ok (.aload_n 1, 1) := by decide +kernel
theorem aL_1212 : argD 1212 ((1 : Nat) : Int) := ⟨by decide +kernel, by decide +kernel, by decide +kernel, by decide +kernel, by decide +kernel⟩
theorem aL_1218 : argD 1218 ((2 : Nat) : Int) := ⟨by decide +kernel, by decide +kernel, by decide +kernel, by decide +kernel, by decide +kernel⟩
theorem aL_1224 : argD 1224 ((3 : Nat) : Int) := ⟨by decide +kernel, by decide +kernel, by decide +kernel, by decide +kernel, by decide +kernel⟩
theorem wlc_C_step : Cond.code yX7_step cX7_step 5 (some .int) ∈ nx_TB := nx_mem 919 (by decide +kernel) (by decide +kernel)
theorem wll_C_step : Cond.methodLink RL 144 yX7_step ∈ nx_TB := nx_mem 916 (by decide +kernel) (by decide +kernel)
theorem wlm_C_step : Cond.instanceMethod yX7_step ∈ nx_TB := nx_mem 917 (by decide +kernel) (by decide +kernel)
theorem wls_C_step : Cond.selects yX7_step.cls yX7_step yX7_step ∈ nx_TB := nx_mem 918 (by decide +kernel) (by decide +kernel)
theorem cwl_C_step : nx_CW RL 144 yX7_step cX7_step 5 (some .int) 3 := ⟨wlc_C_step, wl_i7, ⟨by decide +kernel, by decide +kernel⟩, by decide +kernel, Nat.le_of_ble_eq_true rfl, Or.inl wll_C_step⟩
theorem cvl_C_step : nx_CV yX7_step 7 := ⟨wlm_C_step, wls_C_step, TX7, 12, rfl⟩
theorem dL_1230 : decode code 1230 = .ok (.invokevirtual 144, 3) := by decide +kernel
theorem dL_1233 : decode code 1233 = .ok (.aload_n 2, 1) := by decide +kernel
theorem aL_1234 : argD 1234 ((1 : Nat) : Int) := ⟨by decide +kernel, by decide +kernel, by decide +kernel, by decide +kernel, by decide +kernel⟩
theorem aL_1240 : argD 1240 ((2 : Nat) : Int) := ⟨by decide +kernel, by decide +kernel, by decide +kernel, by decide +kernel, by decide +kernel⟩
theorem aL_1246 : argD 1246 ((3 : Nat) : Int) := ⟨by decide +kernel, by decide +kernel, by decide +kernel, by decide +kernel, by decide +kernel⟩
theorem wlc_M_step : Cond.code yX8_step cX8_step 4 (some .int) ∈ nx_TB := nx_mem 1653 (by decide +kernel) (by decide +kernel)
theorem wll_M_step : Cond.methodLink RL 147 yX8_step ∈ nx_TB := nx_mem 1650 (by decide +kernel) (by decide +kernel)
theorem wlm_M_step : Cond.instanceMethod yX8_step ∈ nx_TB := nx_mem 1651 (by decide +kernel) (by decide +kernel)
theorem wls_M_step : Cond.selects yX8_step.cls yX8_step yX8_step ∈ nx_TB := nx_mem 1652 (by decide +kernel) (by decide +kernel)
theorem cwl_M_step : nx_CW RL 147 yX8_step cX8_step 4 (some .int) 3 := ⟨wlc_M_step, wl_i8, ⟨by decide +kernel, by decide +kernel⟩, by decide +kernel, Nat.le_of_ble_eq_true rfl, Or.inl wll_M_step⟩
theorem cvl_M_step : nx_CV yX8_step 8 := ⟨wlm_M_step, wls_M_step, TX8, 27, rfl⟩
theorem dL_1252 : decode code 1252 = .ok (.invokevirtual 147, 3) := by decide +kernel
theorem dL_1255 : decode code 1255 = .ok (.if_icmp .eq 266, 3) := by decide +kernel
theorem dL_1260 : decode code 1260 = .ok (.aload_n 1, 1) := by decide +kernel
theorem aL_1261 : argD 1261 ((1 : Nat) : Int) := ⟨by decide +kernel, by decide +kernel, by decide +kernel, by decide +kernel, by decide +kernel⟩
theorem aL_1267 : argD 1267 ((2 : Nat) : Int) := ⟨by decide +kernel, by decide +kernel, by decide +kernel, by decide +kernel, by decide +kernel⟩
theorem wlc_C_run : Cond.code yX7_run cX7_run 5 (some .int) ∈ nx_TB := nx_mem 931 (by decide +kernel) (by decide +kernel)
theorem wll_C_run : Cond.methodLink RL 148 yX7_run ∈ nx_TB := nx_mem 928 (by decide +kernel) (by decide +kernel)
theorem wlm_C_run : Cond.instanceMethod yX7_run ∈ nx_TB := nx_mem 929 (by decide +kernel) (by decide +kernel)
theorem wls_C_run : Cond.selects yX7_run.cls yX7_run yX7_run ∈ nx_TB := nx_mem 930 (by decide +kernel) (by decide +kernel)
theorem cwl_C_run : nx_CW RL 148 yX7_run cX7_run 5 (some .int) 2 := ⟨wlc_C_run, wl_i7, ⟨by decide +kernel, by decide +kernel⟩, by decide +kernel, Nat.le_of_ble_eq_true rfl, Or.inl wll_C_run⟩
theorem cvl_C_run : nx_CV yX7_run 7 := ⟨wlm_C_run, wls_C_run, TX7, 12, rfl⟩
theorem dL_1273 : decode code 1273 = .ok (.invokevirtual 148, 3) := by decide +kernel
theorem dL_1276 : decode code 1276 = .ok (.aload_n 2, 1) := by decide +kernel
theorem aL_1277 : argD 1277 ((1 : Nat) : Int) := ⟨by decide +kernel, by decide +kernel, by decide +kernel, by decide +kernel, by decide +kernel⟩
theorem aL_1283 : argD 1283 ((2 : Nat) : Int) := ⟨by decide +kernel, by decide +kernel, by decide +kernel, by decide +kernel, by decide +kernel⟩
theorem wlc_M_run : Cond.code yX8_run cX8_run 5 (some .int) ∈ nx_TB := nx_mem 1661 (by decide +kernel) (by decide +kernel)
theorem wll_M_run : Cond.methodLink RL 151 yX8_run ∈ nx_TB := nx_mem 1658 (by decide +kernel) (by decide +kernel)
theorem wlm_M_run : Cond.instanceMethod yX8_run ∈ nx_TB := nx_mem 1659 (by decide +kernel) (by decide +kernel)
theorem wls_M_run : Cond.selects yX8_run.cls yX8_run yX8_run ∈ nx_TB := nx_mem 1660 (by decide +kernel) (by decide +kernel)
theorem cwl_M_run : nx_CW RL 151 yX8_run cX8_run 5 (some .int) 2 := ⟨wlc_M_run, wl_i8, ⟨by decide +kernel, by decide +kernel⟩, by decide +kernel, Nat.le_of_ble_eq_true rfl, Or.inl wll_M_run⟩
theorem cvl_M_run : nx_CV yX8_run 8 := ⟨wlm_M_run, wls_M_run, TX8, 27, rfl⟩
theorem dL_1289 : decode code 1289 = .ok (.invokevirtual 151, 3) := by decide +kernel
theorem dL_1292 : decode code 1292 = .ok (.if_icmp .eq 229, 3) := by decide +kernel
theorem dL_1297 : decode code 1297 = .ok (.aload_n 1, 1) := by decide +kernel
theorem aL_1298 : argD 1298 ((1 : Nat) : Int) := ⟨by decide +kernel, by decide +kernel, by decide +kernel, by decide +kernel, by decide +kernel⟩
theorem wlc_C_perform : Cond.code yX7_perform cX7_perform 5 (some .int) ∈ nx_TB := nx_mem 949 (by decide +kernel) (by decide +kernel)
theorem wll_C_perform : Cond.methodLink RL 152 yX7_perform ∈ nx_TB := nx_mem 946 (by decide +kernel) (by decide +kernel)
theorem wlm_C_perform : Cond.instanceMethod yX7_perform ∈ nx_TB := nx_mem 947 (by decide +kernel) (by decide +kernel)
theorem wls_C_perform : Cond.selects yX7_perform.cls yX7_perform yX7_perform ∈ nx_TB := nx_mem 948 (by decide +kernel) (by decide +kernel)
theorem cwl_C_perform : nx_CW RL 152 yX7_perform cX7_perform 5 (some .int) 1 := ⟨wlc_C_perform, wl_i7, ⟨by decide +kernel, by decide +kernel⟩, by decide +kernel, Nat.le_of_ble_eq_true rfl, Or.inl wll_C_perform⟩
theorem cvl_C_perform : nx_CV yX7_perform 7 := ⟨wlm_C_perform, wls_C_perform, TX7, 12, rfl⟩
theorem dL_1304 : decode code 1304 = .ok (.invokevirtual 152, 3) := by decide +kernel
theorem dL_1307 : decode code 1307 = .ok (.aload_n 2, 1) := by decide +kernel
theorem aL_1308 : argD 1308 ((1 : Nat) : Int) := ⟨by decide +kernel, by decide +kernel, by decide +kernel, by decide +kernel, by decide +kernel⟩
theorem wlc_M_perform : Cond.code yX8_perform cX8_perform 2 (some .int) ∈ nx_TB := nx_mem 1673 (by decide +kernel) (by decide +kernel)
theorem wll_M_perform : Cond.methodLink RL 155 yX8_perform ∈ nx_TB := nx_mem 1670 (by decide +kernel) (by decide +kernel)
theorem wlm_M_perform : Cond.instanceMethod yX8_perform ∈ nx_TB := nx_mem 1671 (by decide +kernel) (by decide +kernel)
theorem wls_M_perform : Cond.selects yX8_perform.cls yX8_perform yX8_perform ∈ nx_TB := nx_mem 1672 (by decide +kernel) (by decide +kernel)
theorem cwl_M_perform : nx_CW RL 155 yX8_perform cX8_perform 2 (some .int) 1 := ⟨wlc_M_perform, wl_i8, ⟨by decide +kernel, by decide +kernel⟩, by decide +kernel, Nat.le_of_ble_eq_true rfl, Or.inl wll_M_perform⟩
theorem cvl_M_perform : nx_CV yX8_perform 8 := ⟨wlm_M_perform, wls_M_perform, TX8, 27, rfl⟩
theorem dL_1314 : decode code 1314 = .ok (.invokevirtual 155, 3) := by decide +kernel
theorem dL_1317 : decode code 1317 = .ok (.if_icmp .eq 204, 3) := by decide +kernel
theorem dL_1322 : decode code 1322 = .ok (.aload_n 1, 1) := by decide +kernel
theorem aL_1323 : argD 1323 ((1 : Nat) : Int) := ⟨by decide +kernel, by decide +kernel, by decide +kernel, by decide +kernel, by decide +kernel⟩
theorem aL_1329 : argD 1329 ((2 : Nat) : Int) := ⟨by decide +kernel, by decide +kernel, by decide +kernel, by decide +kernel, by decide +kernel⟩
theorem aL_1335 : argD 1335 ((3 : Nat) : Int) := ⟨by decide +kernel, by decide +kernel, by decide +kernel, by decide +kernel, by decide +kernel⟩
theorem wlc_C_mix : Cond.code yX7_mix cX7_mix 6 (some .int) ∈ nx_TB := nx_mem 953 (by decide +kernel) (by decide +kernel)
theorem wll_C_mix : Cond.methodLink RL 156 yX7_mix ∈ nx_TB := nx_mem 950 (by decide +kernel) (by decide +kernel)
theorem wlm_C_mix : Cond.instanceMethod yX7_mix ∈ nx_TB := nx_mem 951 (by decide +kernel) (by decide +kernel)
theorem wls_C_mix : Cond.selects yX7_mix.cls yX7_mix yX7_mix ∈ nx_TB := nx_mem 952 (by decide +kernel) (by decide +kernel)
theorem cwl_C_mix : nx_CW RL 156 yX7_mix cX7_mix 6 (some .int) 3 := ⟨wlc_C_mix, wl_i7, ⟨by decide +kernel, by decide +kernel⟩, by decide +kernel, Nat.le_of_ble_eq_true rfl, Or.inl wll_C_mix⟩
theorem cvl_C_mix : nx_CV yX7_mix 7 := ⟨wlm_C_mix, wls_C_mix, TX7, 12, rfl⟩
theorem dL_1341 : decode code 1341 = .ok (.invokevirtual 156, 3) := by decide +kernel
theorem dL_1344 : decode code 1344 = .ok (.aload_n 2, 1) := by decide +kernel
theorem aL_1345 : argD 1345 ((1 : Nat) : Int) := ⟨by decide +kernel, by decide +kernel, by decide +kernel, by decide +kernel, by decide +kernel⟩
theorem aL_1351 : argD 1351 ((2 : Nat) : Int) := ⟨by decide +kernel, by decide +kernel, by decide +kernel, by decide +kernel, by decide +kernel⟩
theorem aL_1357 : argD 1357 ((3 : Nat) : Int) := ⟨by decide +kernel, by decide +kernel, by decide +kernel, by decide +kernel, by decide +kernel⟩
theorem wlc_M_mix : Cond.code yX8_mix cX8_mix 6 (some .int) ∈ nx_TB := nx_mem 1677 (by decide +kernel) (by decide +kernel)
theorem wll_M_mix : Cond.methodLink RL 159 yX8_mix ∈ nx_TB := nx_mem 1674 (by decide +kernel) (by decide +kernel)
theorem wlm_M_mix : Cond.instanceMethod yX8_mix ∈ nx_TB := nx_mem 1675 (by decide +kernel) (by decide +kernel)
theorem wls_M_mix : Cond.selects yX8_mix.cls yX8_mix yX8_mix ∈ nx_TB := nx_mem 1676 (by decide +kernel) (by decide +kernel)
theorem cwl_M_mix : nx_CW RL 159 yX8_mix cX8_mix 6 (some .int) 3 := ⟨wlc_M_mix, wl_i8, ⟨by decide +kernel, by decide +kernel⟩, by decide +kernel, Nat.le_of_ble_eq_true rfl, Or.inl wll_M_mix⟩
theorem cvl_M_mix : nx_CV yX8_mix 8 := ⟨wlm_M_mix, wls_M_mix, TX8, 27, rfl⟩
theorem dL_1363 : decode code 1363 = .ok (.invokevirtual 159, 3) := by decide +kernel
theorem dL_1366 : decode code 1366 = .ok (.if_icmp .eq 155, 3) := by decide +kernel
theorem dL_1371 : decode code 1371 = .ok (.aload_n 1, 1) := by decide +kernel
theorem aL_1372 : argD 1372 ((1 : Nat) : Int) := ⟨by decide +kernel, by decide +kernel, by decide +kernel, by decide +kernel, by decide +kernel⟩
theorem aL_1378 : argD 1378 ((2 : Nat) : Int) := ⟨by decide +kernel, by decide +kernel, by decide +kernel, by decide +kernel, by decide +kernel⟩
theorem wlc_C_odds : Cond.code yX7_odds cX7_odds 3 (some .int) ∈ nx_TB := nx_mem 977 (by decide +kernel) (by decide +kernel)
theorem wll_C_odds : Cond.methodLink RL 160 yX7_odds ∈ nx_TB := nx_mem 974 (by decide +kernel) (by decide +kernel)
theorem wlm_C_odds : Cond.instanceMethod yX7_odds ∈ nx_TB := nx_mem 975 (by decide +kernel) (by decide +kernel)
theorem wls_C_odds : Cond.selects yX7_odds.cls yX7_odds yX7_odds ∈ nx_TB := nx_mem 976 (by decide +kernel) (by decide +kernel)
theorem cwl_C_odds : nx_CW RL 160 yX7_odds cX7_odds 3 (some .int) 2 := ⟨wlc_C_odds, wl_i7, ⟨by decide +kernel, by decide +kernel⟩, by decide +kernel, Nat.le_of_ble_eq_true rfl, Or.inl wll_C_odds⟩
theorem cvl_C_odds : nx_CV yX7_odds 7 := ⟨wlm_C_odds, wls_C_odds, TX7, 12, rfl⟩
theorem dL_1384 : decode code 1384 = .ok (.invokevirtual 160, 3) := by decide +kernel
theorem dL_1387 : decode code 1387 = .ok (.aload_n 2, 1) := by decide +kernel
theorem aL_1388 : argD 1388 ((1 : Nat) : Int) := ⟨by decide +kernel, by decide +kernel, by decide +kernel, by decide +kernel, by decide +kernel⟩
theorem aL_1394 : argD 1394 ((2 : Nat) : Int) := ⟨by decide +kernel, by decide +kernel, by decide +kernel, by decide +kernel, by decide +kernel⟩
theorem wlc_M_odds : Cond.code yX8_odds cX8_odds 4 (some .int) ∈ nx_TB := nx_mem 1685 (by decide +kernel) (by decide +kernel)
theorem wll_M_odds : Cond.methodLink RL 163 yX8_odds ∈ nx_TB := nx_mem 1682 (by decide +kernel) (by decide +kernel)
theorem wlm_M_odds : Cond.instanceMethod yX8_odds ∈ nx_TB := nx_mem 1683 (by decide +kernel) (by decide +kernel)
theorem wls_M_odds : Cond.selects yX8_odds.cls yX8_odds yX8_odds ∈ nx_TB := nx_mem 1684 (by decide +kernel) (by decide +kernel)
theorem cwl_M_odds : nx_CW RL 163 yX8_odds cX8_odds 4 (some .int) 2 := ⟨wlc_M_odds, wl_i8, ⟨by decide +kernel, by decide +kernel⟩, by decide +kernel, Nat.le_of_ble_eq_true rfl, Or.inl wll_M_odds⟩
theorem cvl_M_odds : nx_CV yX8_odds 8 := ⟨wlm_M_odds, wls_M_odds, TX8, 27, rfl⟩
theorem dL_1400 : decode code 1400 = .ok (.invokevirtual 163, 3) := by decide +kernel
theorem dL_1403 : decode code 1403 = .ok (.if_icmp .eq 118, 3) := by decide +kernel
theorem dL_1408 : decode code 1408 = .ok (.aload_n 1, 1) := by decide +kernel
theorem aL_1409 : argD 1409 ((1 : Nat) : Int) := ⟨by decide +kernel, by decide +kernel, by decide +kernel, by decide +kernel, by decide +kernel⟩
theorem aL_1415 : argD 1415 ((2 : Nat) : Int) := ⟨by decide +kernel, by decide +kernel, by decide +kernel, by decide +kernel, by decide +kernel⟩
theorem wlc_C_shares : Cond.code yX7_shares cX7_shares 4 (some .int) ∈ nx_TB := nx_mem 1004 (by decide +kernel) (by decide +kernel)
theorem wll_C_shares : Cond.methodLink RL 164 yX7_shares ∈ nx_TB := nx_mem 1001 (by decide +kernel) (by decide +kernel)
theorem wlm_C_shares : Cond.instanceMethod yX7_shares ∈ nx_TB := nx_mem 1002 (by decide +kernel) (by decide +kernel)
theorem wls_C_shares : Cond.selects yX7_shares.cls yX7_shares yX7_shares ∈ nx_TB := nx_mem 1003 (by decide +kernel) (by decide +kernel)
theorem cwl_C_shares : nx_CW RL 164 yX7_shares cX7_shares 4 (some .int) 2 := ⟨wlc_C_shares, wl_i7, ⟨by decide +kernel, by decide +kernel⟩, by decide +kernel, Nat.le_of_ble_eq_true rfl, Or.inl wll_C_shares⟩
theorem cvl_C_shares : nx_CV yX7_shares 7 := ⟨wlm_C_shares, wls_C_shares, TX7, 12, rfl⟩
theorem dL_1421 : decode code 1421 = .ok (.invokevirtual 164, 3) := by decide +kernel
theorem dL_1424 : decode code 1424 = .ok (.aload_n 2, 1) := by decide +kernel
theorem aL_1425 : argD 1425 ((1 : Nat) : Int) := ⟨by decide +kernel, by decide +kernel, by decide +kernel, by decide +kernel, by decide +kernel⟩
theorem aL_1431 : argD 1431 ((2 : Nat) : Int) := ⟨by decide +kernel, by decide +kernel, by decide +kernel, by decide +kernel, by decide +kernel⟩
theorem wlc_M_shares : Cond.code yX8_shares cX8_shares 3 (some .int) ∈ nx_TB := nx_mem 1699 (by decide +kernel) (by decide +kernel)
theorem wll_M_shares : Cond.methodLink RL 167 yX8_shares ∈ nx_TB := nx_mem 1696 (by decide +kernel) (by decide +kernel)
theorem wlm_M_shares : Cond.instanceMethod yX8_shares ∈ nx_TB := nx_mem 1697 (by decide +kernel) (by decide +kernel)
theorem wls_M_shares : Cond.selects yX8_shares.cls yX8_shares yX8_shares ∈ nx_TB := nx_mem 1698 (by decide +kernel) (by decide +kernel)
theorem cwl_M_shares : nx_CW RL 167 yX8_shares cX8_shares 3 (some .int) 2 := ⟨wlc_M_shares, wl_i8, ⟨by decide +kernel, by decide +kernel⟩, by decide +kernel, Nat.le_of_ble_eq_true rfl, Or.inl wll_M_shares⟩
theorem cvl_M_shares : nx_CV yX8_shares 8 := ⟨wlm_M_shares, wls_M_shares, TX8, 27, rfl⟩
theorem dL_1437 : decode code 1437 = .ok (.invokevirtual 167, 3) := by decide +kernel
theorem dL_1440 : decode code 1440 = .ok (.if_icmp .eq 81, 3) := by decide +kernel
theorem dL_1445 : decode code 1445 = .ok (.aload_n 1, 1) := by decide +kernel
theorem aL_1446 : argD 1446 ((1 : Nat) : Int) := ⟨by decide +kernel, by decide +kernel, by decide +kernel, by decide +kernel, by decide +kernel⟩
theorem wlc_C_all : Cond.code yX7_all cX7_all 2 (some .int) ∈ nx_TB := nx_mem 1012 (by decide +kernel) (by decide +kernel)
theorem wll_C_all : Cond.methodLink RL 168 yX7_all ∈ nx_TB := nx_mem 1009 (by decide +kernel) (by decide +kernel)
theorem wlm_C_all : Cond.instanceMethod yX7_all ∈ nx_TB := nx_mem 1010 (by decide +kernel) (by decide +kernel)
theorem wls_C_all : Cond.selects yX7_all.cls yX7_all yX7_all ∈ nx_TB := nx_mem 1011 (by decide +kernel) (by decide +kernel)
theorem cwl_C_all : nx_CW RL 168 yX7_all cX7_all 2 (some .int) 1 := ⟨wlc_C_all, wl_i7, ⟨by decide +kernel, by decide +kernel⟩, by decide +kernel, Nat.le_of_ble_eq_true rfl, Or.inl wll_C_all⟩
theorem cvl_C_all : nx_CV yX7_all 7 := ⟨wlm_C_all, wls_C_all, TX7, 12, rfl⟩
theorem dL_1452 : decode code 1452 = .ok (.invokevirtual 168, 3) := by decide +kernel
theorem dL_1455 : decode code 1455 = .ok (.aload_n 2, 1) := by decide +kernel
theorem aL_1456 : argD 1456 ((1 : Nat) : Int) := ⟨by decide +kernel, by decide +kernel, by decide +kernel, by decide +kernel, by decide +kernel⟩
theorem wlc_M_all : Cond.code yX8_all cX8_all 2 (some .int) ∈ nx_TB := nx_mem 1707 (by decide +kernel) (by decide +kernel)
theorem wll_M_all : Cond.methodLink RL 171 yX8_all ∈ nx_TB := nx_mem 1704 (by decide +kernel) (by decide +kernel)
theorem wlm_M_all : Cond.instanceMethod yX8_all ∈ nx_TB := nx_mem 1705 (by decide +kernel) (by decide +kernel)
theorem wls_M_all : Cond.selects yX8_all.cls yX8_all yX8_all ∈ nx_TB := nx_mem 1706 (by decide +kernel) (by decide +kernel)
theorem cwl_M_all : nx_CW RL 171 yX8_all cX8_all 2 (some .int) 1 := ⟨wlc_M_all, wl_i8, ⟨by decide +kernel, by decide +kernel⟩, by decide +kernel, Nat.le_of_ble_eq_true rfl, Or.inl wll_M_all⟩
theorem cvl_M_all : nx_CV yX8_all 8 := ⟨wlm_M_all, wls_M_all, TX8, 27, rfl⟩
theorem dL_1462 : decode code 1462 = .ok (.invokevirtual 171, 3) := by decide +kernel
theorem dL_1465 : decode code 1465 = .ok (.if_icmp .eq 56, 3) := by decide +kernel
theorem dL_1470 : decode code 1470 = .ok (.aload_n 1, 1) := by decide +kernel
theorem wlc_C_image : Cond.code yX7_image cX7_image 1 (some .int) ∈ nx_TB := nx_mem 1045 (by decide +kernel) (by decide +kernel)
theorem wll_C_image : Cond.methodLink RL 172 yX7_image ∈ nx_TB := nx_mem 1042 (by decide +kernel) (by decide +kernel)
theorem wlm_C_image : Cond.instanceMethod yX7_image ∈ nx_TB := nx_mem 1043 (by decide +kernel) (by decide +kernel)
theorem wls_C_image : Cond.selects yX7_image.cls yX7_image yX7_image ∈ nx_TB := nx_mem 1044 (by decide +kernel) (by decide +kernel)
theorem cwl_C_image : nx_CW RL 172 yX7_image cX7_image 1 (some .int) 0 := ⟨wlc_C_image, wl_i7, ⟨by decide +kernel, by decide +kernel⟩, by decide +kernel, Nat.le_of_ble_eq_true rfl, Or.inl wll_C_image⟩
theorem cvl_C_image : nx_CV yX7_image 7 := ⟨wlm_C_image, wls_C_image, TX7, 12, rfl⟩
theorem dL_1471 : decode code 1471 = .ok (.invokevirtual 172, 3) := by decide +kernel
theorem dL_1474 : decode code 1474 = .ok (.aload_n 2, 1) := by decide +kernel
theorem wlc_M_image : Cond.code yX8_image cX8_image 2 (some .int) ∈ nx_TB := nx_mem 1739 (by decide +kernel) (by decide +kernel)
theorem wll_M_image : Cond.methodLink RL 175 yX8_image ∈ nx_TB := nx_mem 1736 (by decide +kernel) (by decide +kernel)
theorem wlm_M_image : Cond.instanceMethod yX8_image ∈ nx_TB := nx_mem 1737 (by decide +kernel) (by decide +kernel)
theorem wls_M_image : Cond.selects yX8_image.cls yX8_image yX8_image ∈ nx_TB := nx_mem 1738 (by decide +kernel) (by decide +kernel)
theorem cwl_M_image : nx_CW RL 175 yX8_image cX8_image 2 (some .int) 0 := ⟨wlc_M_image, wl_i8, ⟨by decide +kernel, by decide +kernel⟩, by decide +kernel, Nat.le_of_ble_eq_true rfl, Or.inl wll_M_image⟩
theorem cvl_M_image : nx_CV yX8_image 8 := ⟨wlm_M_image, wls_M_image, TX8, 27, rfl⟩
theorem dL_1475 : decode code 1475 = .ok (.invokevirtual 175, 3) := by decide +kernel
theorem dL_1478 : decode code 1478 = .ok (.if_icmp .eq 43, 3) := by decide +kernel
theorem dL_1483 : decode code 1483 = .ok (.aload_n 1, 1) := by decide +kernel
theorem wlc_C_back : Cond.code yX7_back cX7_back 1 (some .int) ∈ nx_TB := nx_mem 1050 (by decide +kernel) (by decide +kernel)
theorem wll_C_back : Cond.methodLink RL 176 yX7_back ∈ nx_TB := nx_mem 1047 (by decide +kernel) (by decide +kernel)
theorem wlm_C_back : Cond.instanceMethod yX7_back ∈ nx_TB := nx_mem 1048 (by decide +kernel) (by decide +kernel)
theorem wls_C_back : Cond.selects yX7_back.cls yX7_back yX7_back ∈ nx_TB := nx_mem 1049 (by decide +kernel) (by decide +kernel)
theorem cwl_C_back : nx_CW RL 176 yX7_back cX7_back 1 (some .int) 0 := ⟨wlc_C_back, wl_i7, ⟨by decide +kernel, by decide +kernel⟩, by decide +kernel, Nat.le_of_ble_eq_true rfl, Or.inl wll_C_back⟩
theorem cvl_C_back : nx_CV yX7_back 7 := ⟨wlm_C_back, wls_C_back, TX7, 12, rfl⟩
theorem dL_1484 : decode code 1484 = .ok (.invokevirtual 176, 3) := by decide +kernel
theorem dL_1487 : decode code 1487 = .ok (.aload_n 2, 1) := by decide +kernel
theorem wlc_M_back : Cond.code yX8_back cX8_back 2 (some .int) ∈ nx_TB := nx_mem 1743 (by decide +kernel) (by decide +kernel)
theorem wll_M_back : Cond.methodLink RL 179 yX8_back ∈ nx_TB := nx_mem 1740 (by decide +kernel) (by decide +kernel)
theorem wlm_M_back : Cond.instanceMethod yX8_back ∈ nx_TB := nx_mem 1741 (by decide +kernel) (by decide +kernel)
theorem wls_M_back : Cond.selects yX8_back.cls yX8_back yX8_back ∈ nx_TB := nx_mem 1742 (by decide +kernel) (by decide +kernel)
theorem cwl_M_back : nx_CW RL 179 yX8_back cX8_back 2 (some .int) 0 := ⟨wlc_M_back, wl_i8, ⟨by decide +kernel, by decide +kernel⟩, by decide +kernel, Nat.le_of_ble_eq_true rfl, Or.inl wll_M_back⟩
theorem cvl_M_back : nx_CV yX8_back 8 := ⟨wlm_M_back, wls_M_back, TX8, 27, rfl⟩
theorem dL_1488 : decode code 1488 = .ok (.invokevirtual 179, 3) := by decide +kernel
theorem dL_1491 : decode code 1491 = .ok (.if_icmp .eq 30, 3) := by decide +kernel
theorem dL_1496 : decode code 1496 = .ok (.aload_n 1, 1) := by decide +kernel
theorem aL_1497 : argD 1497 ((1 : Nat) : Int) := ⟨by decide +kernel, by decide +kernel, by decide +kernel, by decide +kernel, by decide +kernel⟩
theorem wlc_C_count : Cond.code yX7_count cX7_count 2 (some .int) ∈ nx_TB := nx_mem 1054 (by decide +kernel) (by decide +kernel)
theorem wll_C_count : Cond.methodLink RL 180 yX7_count ∈ nx_TB := nx_mem 1051 (by decide +kernel) (by decide +kernel)
theorem wlm_C_count : Cond.instanceMethod yX7_count ∈ nx_TB := nx_mem 1052 (by decide +kernel) (by decide +kernel)
theorem wls_C_count : Cond.selects yX7_count.cls yX7_count yX7_count ∈ nx_TB := nx_mem 1053 (by decide +kernel) (by decide +kernel)
theorem cwl_C_count : nx_CW RL 180 yX7_count cX7_count 2 (some .int) 1 := ⟨wlc_C_count, wl_i7, ⟨by decide +kernel, by decide +kernel⟩, by decide +kernel, Nat.le_of_ble_eq_true rfl, Or.inl wll_C_count⟩
theorem cvl_C_count : nx_CV yX7_count 7 := ⟨wlm_C_count, wls_C_count, TX7, 12, rfl⟩
theorem dL_1503 : decode code 1503 = .ok (.invokevirtual 180, 3) := by decide +kernel
theorem dL_1506 : decode code 1506 = .ok (.aload_n 2, 1) := by decide +kernel
theorem aL_1507 : argD 1507 ((1 : Nat) : Int) := ⟨by decide +kernel, by decide +kernel, by decide +kernel, by decide +kernel, by decide +kernel⟩
theorem wlc_M_count : Cond.code yX8_count cX8_count 2 (some .int) ∈ nx_TB := nx_mem 1747 (by decide +kernel) (by decide +kernel)
theorem wll_M_count : Cond.methodLink RL 183 yX8_count ∈ nx_TB := nx_mem 1744 (by decide +kernel) (by decide +kernel)
theorem wlm_M_count : Cond.instanceMethod yX8_count ∈ nx_TB := nx_mem 1745 (by decide +kernel) (by decide +kernel)
theorem wls_M_count : Cond.selects yX8_count.cls yX8_count yX8_count ∈ nx_TB := nx_mem 1746 (by decide +kernel) (by decide +kernel)
theorem cwl_M_count : nx_CW RL 183 yX8_count cX8_count 2 (some .int) 1 := ⟨wlc_M_count, wl_i8, ⟨by decide +kernel, by decide +kernel⟩, by decide +kernel, Nat.le_of_ble_eq_true rfl, Or.inl wll_M_count⟩
theorem cvl_M_count : nx_CV yX8_count 8 := ⟨wlm_M_count, wls_M_count, TX8, 27, rfl⟩
theorem dL_1513 : decode code 1513 = .ok (.invokevirtual 183, 3) := by decide +kernel
theorem dL_1516 : decode code 1516 = .ok (.if_icmp .eq 5, 3) := by decide +kernel
theorem dL_0 : decode code 0 = .ok (.new 8, 3) := by decide +kernel
theorem dL_3 : decode code 3 = .ok (.dup, 1) := by decide +kernel
theorem dL_4 : decode code 4 = .ok (.invokespecial 15, 3) := by decide +kernel
theorem dL_7 : decode code 7 = .ok (.astore_n 1, 1) := by decide +kernel
theorem dL_8 : decode code 8 = .ok (.new 16, 3) := by decide +kernel
theorem dL_11 : decode code 11 = .ok (.dup, 1) := by decide +kernel
theorem dL_12 : decode code 12 = .ok (.invokespecial 18, 3) := by decide +kernel
theorem dL_15 : decode code 15 = .ok (.astore_n 2, 1) := by decide +kernel
theorem dL_16 : decode code 16 = .ok (.iconst 1, 1) := by decide +kernel
theorem dL_17 : decode code 17 = .ok (.newarray .long, 2) := by decide +kernel
theorem dL_19 : decode code 19 = .ok (.astore_n 3, 1) := by decide +kernel
theorem dL_20 : decode code 20 = .ok (.iconst 0, 1) := by decide +kernel
theorem dL_21 : decode code 21 = .ok (.istore 4, 2) := by decide +kernel
theorem dL_23 : decode code 23 = .ok (.iload 4, 2) := by decide +kernel
theorem dL_25 : decode code 25 = .ok (.aload_n 0, 1) := by decide +kernel
theorem dL_26 : decode code 26 = .ok (.arraylength, 1) := by decide +kernel
theorem dL_27 : decode code 27 = .ok (.bipush 6, 2) := by decide +kernel
theorem dL_29 : decode code 29 = .ok (.isub, 1) := by decide +kernel
theorem dL_30 : decode code 30 = .ok (.if_icmp .gt 1497, 3) := by decide +kernel
theorem dL_33 : decode code 33 = .ok (.aload_n 0, 1) := by decide +kernel
theorem dL_34 : decode code 34 = .ok (.iload 4, 2) := by decide +kernel
theorem dL_36 : decode code 36 = .ok (.iaload, 1) := by decide +kernel
theorem dL_37 : decode code 37 = .ok (.bipush 63, 2) := by decide +kernel
theorem dL_39 : decode code 39 = .ok (.iand, 1) := by decide +kernel
theorem dL_1521 : decode code 1521 = .ok (.iinc 4 6, 3) := by decide +kernel
theorem dL_1524 : decode code 1524 = .ok (.goto (-1501), 3) := by decide +kernel
theorem dL_1527 : decode code 1527 = .ok (.iconst 1, 1) := by decide +kernel
theorem dL_1528 : decode code 1528 = .ok (.ireturn, 1) := by decide +kernel
abbrev swO : Array Int := #[168, 241, 266, 291, 316, 341, 409, 446, 495, 520, 569, 606, 655, 692, 741, 766, 791, 816, 829, 898, 923, 936, 973, 1022, 1059, 1084, 1109, 1134, 1171, 1220, 1257, 1282, 1331, 1368, 1405, 1430, 1443, 1456]
theorem dL_40 : decode code 40 = .ok (.tableswitch 1481 0 37 swO, 168) := by decide +kernel
theorem dL_381 : decode code 381 = .ok (.aload_n 1, 1) := by decide +kernel
theorem aL_382 : argD 382 ((1 : Nat) : Int) := ⟨by decide +kernel, by decide +kernel, by decide +kernel, by decide +kernel, by decide +kernel⟩
theorem aL_388 : argD 388 ((2 : Nat) : Int) := ⟨by decide +kernel, by decide +kernel, by decide +kernel, by decide +kernel, by decide +kernel⟩
theorem dL_394 : decode code 394 = .ok (.aload_n 3, 1) := by decide +kernel
theorem dL_395 : decode code 395 = .ok (.invokestatic 42, 3) := by decide +kernel
theorem dL_398 : decode code 398 = .ok (.istore 5, 2) := by decide +kernel
theorem dL_400 : decode code 400 = .ok (.aload_n 2, 1) := by decide +kernel
theorem aL_401 : argD 401 ((1 : Nat) : Int) := ⟨by decide +kernel, by decide +kernel, by decide +kernel, by decide +kernel, by decide +kernel⟩
theorem aL_407 : argD 407 ((2 : Nat) : Int) := ⟨by decide +kernel, by decide +kernel, by decide +kernel, by decide +kernel, by decide +kernel⟩
theorem dL_413 : decode code 413 = .ok (.invokevirtual 47, 3) := by decide +kernel
theorem dL_416 : decode code 416 = .ok (.istore 6, 2) := by decide +kernel
theorem dL_418 : decode code 418 = .ok (.aload_n 2, 1) := by decide +kernel
theorem dL_419 : decode code 419 = .ok (.invokevirtual 48, 3) := by decide +kernel
theorem dL_422 : decode code 422 = .ok (.iload 5, 2) := by decide +kernel
theorem dL_424 : decode code 424 = .ok (.if_icmp .eq 5, 3) := by decide +kernel
theorem dL_427 : decode code 427 = .ok (.iconst 0, 1) := by decide +kernel
theorem dL_428 : decode code 428 = .ok (.ireturn, 1) := by decide +kernel
theorem dL_429 : decode code 429 = .ok (.iload 5, 2) := by decide +kernel
theorem dL_431 : decode code 431 = .ok (.ifCond .ne 15, 3) := by decide +kernel
theorem dL_434 : decode code 434 = .ok (.aload_n 3, 1) := by decide +kernel
theorem dL_435 : decode code 435 = .ok (.iconst 0, 1) := by decide +kernel
theorem dL_436 : decode code 436 = .ok (.laload, 1) := by decide +kernel
theorem dL_437 : decode code 437 = .ok (.iload 6, 2) := by decide +kernel
theorem dL_439 : decode code 439 = .ok (.i2l, 1) := by decide +kernel
theorem dL_440 : decode code 440 = .ok (.lcmp, 1) := by decide +kernel
theorem dL_441 : decode code 441 = .ok (.ifCond .eq 5, 3) := by decide +kernel
theorem dL_444 : decode code 444 = .ok (.iconst 0, 1) := by decide +kernel
theorem dL_445 : decode code 445 = .ok (.ireturn, 1) := by decide +kernel
theorem dL_446 : decode code 446 = .ok (.goto 1075, 3) := by decide +kernel
theorem wlc_M_seat : Cond.code yX8_seat cX8_seat 3 (some .int) ∈ nx_TB := nx_mem 1588 (by decide +kernel) (by decide +kernel)
theorem wll_M_seat : Cond.methodLink RL 47 yX8_seat ∈ nx_TB := nx_mem 1585 (by decide +kernel) (by decide +kernel)
theorem wlm_M_seat : Cond.instanceMethod yX8_seat ∈ nx_TB := nx_mem 1586 (by decide +kernel) (by decide +kernel)
theorem wls_M_seat : Cond.selects yX8_seat.cls yX8_seat yX8_seat ∈ nx_TB := nx_mem 1587 (by decide +kernel) (by decide +kernel)
theorem cwl_M_seat : nx_CW RL 47 yX8_seat cX8_seat 3 (some .int) 2 := ⟨wlc_M_seat, wl_i8, ⟨by decide +kernel, by decide +kernel⟩, by decide +kernel, Nat.le_of_ble_eq_true rfl, Or.inl wll_M_seat⟩
theorem cvl_M_seat : nx_CV yX8_seat 8 := ⟨wlm_M_seat, wls_M_seat, TX8, 27, rfl⟩
theorem wlc_M_thrown : Cond.code yX8_thrown cX8_thrown 1 (some .int) ∈ nx_TB := nx_mem 1230 (by decide +kernel) (by decide +kernel)
theorem wll_M_thrown : Cond.methodLink RL 48 yX8_thrown ∈ nx_TB := nx_mem 1227 (by decide +kernel) (by decide +kernel)
theorem wlm_M_thrown : Cond.instanceMethod yX8_thrown ∈ nx_TB := nx_mem 1228 (by decide +kernel) (by decide +kernel)
theorem wls_M_thrown : Cond.selects yX8_thrown.cls yX8_thrown yX8_thrown ∈ nx_TB := nx_mem 1229 (by decide +kernel) (by decide +kernel)
theorem cwl_M_thrown : nx_CW RL 48 yX8_thrown cX8_thrown 1 (some .int) 0 := ⟨wlc_M_thrown, wl_i8, ⟨by decide +kernel, by decide +kernel⟩, by decide +kernel, Nat.le_of_ble_eq_true rfl, Or.inl wll_M_thrown⟩
theorem cvl_M_thrown : nx_CV yX8_thrown 8 := ⟨wlm_M_thrown, wls_M_thrown, TX8, 27, rfl⟩
theorem wl_1748 : Cond.constantLong RL 101 4294967295 ∈ nx_TB := nx_mem 1748 (by decide +kernel) (by decide +kernel)
theorem wl_l8 : Cond.classLink RL 8 RX7 ∈ nx_TB := nx_mem 208 (by decide +kernel) (by decide +kernel)
theorem wl_l16 : Cond.classLink RL 16 RX8 ∈ nx_TB := nx_mem 1138 (by decide +kernel) (by decide +kernel)
theorem wl_15 : Cond.methodLink RL 15 yX7_init ∈ nx_TB := nx_mem 210 (by decide +kernel) (by decide +kernel)
theorem wl_18 : Cond.methodLink RL 18 yX8_init ∈ nx_TB := nx_mem 1140 (by decide +kernel) (by decide +kernel)
theorem wlc_C_init : Cond.code yX7_init cX7_init 1 none ∈ nx_TB := nx_mem 212 (by decide +kernel) (by decide +kernel)
theorem wlm_C_init : Cond.instanceMethod yX7_init ∈ nx_TB := nx_mem 211 (by decide +kernel) (by decide +kernel)
theorem cwl_C_init : nx_CW RL 15 yX7_init cX7_init 1 none 0 := ⟨wlc_C_init, wl_i7, ⟨by decide +kernel, by decide +kernel⟩, by decide +kernel, Nat.le_of_ble_eq_true rfl, Or.inl wl_15⟩
theorem wlc_M_init : Cond.code yX8_init cX8_init 1 none ∈ nx_TB := nx_mem 1142 (by decide +kernel) (by decide +kernel)
theorem wlm_M_init : Cond.instanceMethod yX8_init ∈ nx_TB := nx_mem 1141 (by decide +kernel) (by decide +kernel)
theorem cwl_M_init : nx_CW RL 18 yX8_init cX8_init 1 none 0 := ⟨wlc_M_init, wl_i8, ⟨by decide +kernel, by decide +kernel⟩, by decide +kernel, Nat.le_of_ble_eq_true rfl, Or.inl wl_18⟩
