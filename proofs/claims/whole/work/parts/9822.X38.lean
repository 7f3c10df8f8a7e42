/-! ===== the law's cases (printed by lawgen.py) ===== -/
section LAWC
variable {Γ : nx_G} {b L x j A B : Nat} {xs : Nat → Int32} {D : nx_M} {g : mS} {f : Nat → Int64}
theorem Lc_0 (hI : INV Γ x A B D g) (hj : 6 * j + 6 ≤ L) (hL : L ≤ 3072) : ∃ D' g', INV Γ x A B D' g' ∧ ∀ (X : nx_X) (Z : nx_Z) (nm : String), LX Γ X b L xs → nx_J Γ X (YL nm) Z (fun _ : Unit => .inl (1521, lls b x j, [], LM Γ x D' g' f)) (.inl (208, lls b x j, [], LM Γ x D g f)) (some ()) := by
  obtain ⟨r, D', g', e1, e2, hI'⟩ := B_feed (u := 40000) (xs (6 * j + 1)) (xs (6 * j + 2)) (xs (6 * j + 3)) (xs (6 * j + 4)) (xs (6 * j + 5)) (by decide) hI
  refine ⟨D', g', hI', fun X Z nm hX => ?_⟩
  refine nx_aload_n rfl dL_208 rfl ?_
  refine L_arg hX.1 hj hL (k := 1) (by decide) aL_209 rfl rfl rfl ?_
  refine L_arg hX.1 hj hL (k := 2) (by decide) aL_215 rfl rfl rfl ?_
  refine L_arg hX.1 hj hL (k := 3) (by decide) aL_221 rfl rfl rfl ?_
  refine L_arg hX.1 hj hL (k := 4) (by decide) aL_227 rfl rfl rfl ?_
  refine L_arg hX.1 hj hL (k := 5) (by decide) aL_233 rfl rfl rfl ?_
  refine L_cc [.int (xs (6 * j + 1)), .int (xs (6 * j + 2)), .int (xs (6 * j + 3)), .int (xs (6 * j + 4)), .int (xs (6 * j + 5))] cwl_C_feed cvl_C_feed (cC_feed X.2.1 (M0 := lwM Γ x g f) e1) hI rfl rfl (by decide) dL_239 rfl ?_
  refine nx_aload_n rfl dL_242 rfl ?_
  refine L_arg hX.1 hj hL (k := 1) (by decide) aL_243 rfl rfl rfl ?_
  refine L_arg hX.1 hj hL (k := 2) (by decide) aL_249 rfl rfl rfl ?_
  refine L_arg hX.1 hj hL (k := 3) (by decide) aL_255 rfl rfl rfl ?_
  refine L_arg hX.1 hj hL (k := 4) (by decide) aL_261 rfl rfl rfl ?_
  refine L_arg hX.1 hj hL (k := 5) (by decide) aL_267 rfl rfl rfl ?_
  refine L_cm [.int (xs (6 * j + 1)), .int (xs (6 * j + 2)), .int (xs (6 * j + 3)), .int (xs (6 * j + 4)), .int (xs (6 * j + 5))] cwl_M_feed cvl_M_feed (cM_feed X.2.1 (M0 := LM Γ x D' g f) (m := x + 19) e2) hI'.fr rfl rfl (Nat.le_of_ble_eq_true rfl) (by decide) dL_273 rfl ?_
  refine L_eq (t := 1521) dL_276 (by decide) ?_
  exact nx_leaf rfl
theorem Lc_1 (hI : INV Γ x A B D g) (hj : 6 * j + 6 ≤ L) (hL : L ≤ 3072) : ∃ D' g', INV Γ x A B D' g' ∧ ∀ (X : nx_X) (Z : nx_Z) (nm : String), LX Γ X b L xs → nx_J Γ X (YL nm) Z (fun _ : Unit => .inl (1521, lls b x j, [], LM Γ x D' g' f)) (.inl (281, lls b x j, [], LM Γ x D g f)) (some ()) := by
  obtain ⟨r, D', g', e1, e2, hI'⟩ := B_end (u := 40000) (xs (6 * j + 1)) (by decide) hI
  refine ⟨D', g', hI', fun X Z nm hX => ?_⟩
  refine nx_aload_n rfl dL_281 rfl ?_
  refine L_arg hX.1 hj hL (k := 1) (by decide) aL_282 rfl rfl rfl ?_
  refine L_cc [.int (xs (6 * j + 1))] cwl_C_end cvl_C_end (cC_end X.2.1 (M0 := lwM Γ x g f) e1) hI rfl rfl (by decide) dL_288 rfl ?_
  refine nx_aload_n rfl dL_291 rfl ?_
  refine L_arg hX.1 hj hL (k := 1) (by decide) aL_292 rfl rfl rfl ?_
  refine L_cm [.int (xs (6 * j + 1))] cwl_M_end cvl_M_end (cM_end X.2.1 (M0 := LM Γ x D' g f) (m := x + 19) e2) hI'.fr rfl rfl (Nat.le_of_ble_eq_true rfl) (by decide) dL_298 rfl ?_
  refine L_eq (t := 1521) dL_301 (by decide) ?_
  exact nx_leaf rfl
theorem Lc_2 (hI : INV Γ x A B D g) (hj : 6 * j + 6 ≤ L) (hL : L ≤ 3072) : ∃ D' g', INV Γ x A B D' g' ∧ ∀ (X : nx_X) (Z : nx_Z) (nm : String), LX Γ X b L xs → nx_J Γ X (YL nm) Z (fun _ : Unit => .inl (1521, lls b x j, [], LM Γ x D' g' f)) (.inl (306, lls b x j, [], LM Γ x D g f)) (some ()) := by
  obtain ⟨r, D', g', e1, e2, hI'⟩ := B_fault (u := 40000) (xs (6 * j + 1)) (by decide) hI
  refine ⟨D', g', hI', fun X Z nm hX => ?_⟩
  refine nx_aload_n rfl dL_306 rfl ?_
  refine L_arg hX.1 hj hL (k := 1) (by decide) aL_307 rfl rfl rfl ?_
  refine L_cc [.int (xs (6 * j + 1))] cwl_C_fault cvl_C_fault (cC_fault X.2.1 (M0 := lwM Γ x g f) e1) hI rfl rfl (by decide) dL_313 rfl ?_
  refine nx_aload_n rfl dL_316 rfl ?_
  refine L_arg hX.1 hj hL (k := 1) (by decide) aL_317 rfl rfl rfl ?_
  refine L_cm [.int (xs (6 * j + 1))] cwl_M_fault cvl_M_fault (cM_fault X.2.1 (M0 := LM Γ x D' g f) (m := x + 19) e2) hI'.fr rfl rfl (Nat.le_of_ble_eq_true rfl) (by decide) dL_323 rfl ?_
  refine L_eq (t := 1521) dL_326 (by decide) ?_
  exact nx_leaf rfl
theorem Lc_3 (hI : INV Γ x A B D g) (hj : 6 * j + 6 ≤ L) (hL : L ≤ 3072) : ∃ D' g', INV Γ x A B D' g' ∧ ∀ (X : nx_X) (Z : nx_Z) (nm : String), LX Γ X b L xs → nx_J Γ X (YL nm) Z (fun _ : Unit => .inl (1521, lls b x j, [], LM Γ x D' g' f)) (.inl (331, lls b x j, [], LM Γ x D g f)) (some ()) := by
  obtain ⟨r, D', g', e1, e2, hI'⟩ := B_text (u := 40000) (xs (6 * j + 1)) (by decide) hI
  refine ⟨D', g', hI', fun X Z nm hX => ?_⟩
  refine nx_aload_n rfl dL_331 rfl ?_
  refine L_arg hX.1 hj hL (k := 1) (by decide) aL_332 rfl rfl rfl ?_
  refine L_cc [.int (xs (6 * j + 1))] cwl_C_text cvl_C_text (cC_text X.2.1 (M0 := lwM Γ x g f) e1) hI rfl rfl (by decide) dL_338 rfl ?_
  refine nx_aload_n rfl dL_341 rfl ?_
  refine L_arg hX.1 hj hL (k := 1) (by decide) aL_342 rfl rfl rfl ?_
  refine L_cm [.int (xs (6 * j + 1))] cwl_M_text cvl_M_text (cM_text X.2.1 (M0 := LM Γ x D' g f) (m := x + 19) e2) hI'.fr rfl rfl (Nat.le_of_ble_eq_true rfl) (by decide) dL_348 rfl ?_
  refine L_eq (t := 1521) dL_351 (by decide) ?_
  exact nx_leaf rfl
theorem Lc_4 (hI : INV Γ x A B D g) (hj : 6 * j + 6 ≤ L) (hL : L ≤ 3072) : ∃ D' g', INV Γ x A B D' g' ∧ ∀ (X : nx_X) (Z : nx_Z) (nm : String), LX Γ X b L xs → nx_J Γ X (YL nm) Z (fun _ : Unit => .inl (1521, lls b x j, [], LM Γ x D' g' f)) (.inl (356, lls b x j, [], LM Γ x D g f)) (some ()) := by
  obtain ⟨r, e1, e2⟩ := B_rule (u := 40000) (by decide) hI (xs (6 * j + 1))
  refine ⟨D, g, hI, fun X Z nm hX => ?_⟩
  refine nx_aload_n rfl dL_356 rfl ?_
  refine L_arg hX.1 hj hL (k := 1) (by decide) aL_357 rfl rfl rfl ?_
  refine L_cc [.int (xs (6 * j + 1))] cwl_C_rule cvl_C_rule (cC_rule X.2.1 (M0 := lwM Γ x g f) e1) hI rfl rfl (by decide) dL_363 rfl ?_
  refine nx_aload_n rfl dL_366 rfl ?_
  refine L_arg hX.1 hj hL (k := 1) (by decide) aL_367 rfl rfl rfl ?_
  refine L_cm [.int (xs (6 * j + 1))] cwl_M_rule cvl_M_rule (cM_rule X.2.1 (M0 := LM Γ x D g f) (m := x + 19) e2) hI.fr rfl rfl (Nat.le_of_ble_eq_true rfl) (by decide) dL_373 rfl ?_
  refine L_eq (t := 1521) dL_376 (by decide) ?_
  exact nx_leaf rfl
theorem Lc_6 (hI : INV Γ x A B D g) (hj : 6 * j + 6 ≤ L) (hL : L ≤ 3072) : ∃ D' g', INV Γ x A B D' g' ∧ ∀ (X : nx_X) (Z : nx_Z) (nm : String), LX Γ X b L xs → nx_J Γ X (YL nm) Z (fun _ : Unit => .inl (1521, lls b x j, [], LM Γ x D' g' f)) (.inl (449, lls b x j, [], LM Γ x D g f)) (some ()) := by
  obtain ⟨r, e1, e2⟩ := B_readBy (u := 40000) (by decide) hI (xs (6 * j + 1)) (xs (6 * j + 2))
  refine ⟨D, g, hI, fun X Z nm hX => ?_⟩
  refine nx_aload_n rfl dL_449 rfl ?_
  refine L_arg hX.1 hj hL (k := 1) (by decide) aL_450 rfl rfl rfl ?_
  refine L_arg hX.1 hj hL (k := 2) (by decide) aL_456 rfl rfl rfl ?_
  refine L_cc [.int (xs (6 * j + 1)), .int (xs (6 * j + 2))] cwl_C_readBy cvl_C_readBy (cC_readBy X.2.1 (M0 := lwM Γ x g f) e1) hI rfl rfl (by decide) dL_462 rfl ?_
  refine nx_aload_n rfl dL_465 rfl ?_
  refine L_arg hX.1 hj hL (k := 1) (by decide) aL_466 rfl rfl rfl ?_
  refine L_arg hX.1 hj hL (k := 2) (by decide) aL_472 rfl rfl rfl ?_
  refine L_cm [.int (xs (6 * j + 1)), .int (xs (6 * j + 2))] cwl_M_readBy cvl_M_readBy (cM_readBy X.2.1 (M0 := LM Γ x D g f) (m := x + 19) e2) hI.fr rfl rfl (Nat.le_of_ble_eq_true rfl) (by decide) dL_478 rfl ?_
  refine L_eq (t := 1521) dL_481 (by decide) ?_
  exact nx_leaf rfl
theorem Lc_7 (hI : INV Γ x A B D g) (hj : 6 * j + 6 ≤ L) (hL : L ≤ 3072) : ∃ D' g', INV Γ x A B D' g' ∧ ∀ (X : nx_X) (Z : nx_Z) (nm : String), LX Γ X b L xs → nx_J Γ X (YL nm) Z (fun _ : Unit => .inl (1521, lls b x j, [], LM Γ x D' g' f)) (.inl (486, lls b x j, [], LM Γ x D g f)) (some ()) := by
  obtain ⟨r, e1, e2⟩ := B_deed (u := 40000) (by decide) hI (xs (6 * j + 1)) (xs (6 * j + 2)) (xs (6 * j + 3))
  refine ⟨D, g, hI, fun X Z nm hX => ?_⟩
  refine nx_aload_n rfl dL_486 rfl ?_
  refine L_arg hX.1 hj hL (k := 1) (by decide) aL_487 rfl rfl rfl ?_
  refine L_arg hX.1 hj hL (k := 2) (by decide) aL_493 rfl rfl rfl ?_
  refine L_arg hX.1 hj hL (k := 3) (by decide) aL_499 rfl rfl rfl ?_
  refine L_cc [.int (xs (6 * j + 1)), .int (xs (6 * j + 2)), .int (xs (6 * j + 3))] cwl_C_deed cvl_C_deed (cC_deed X.2.1 (M0 := lwM Γ x g f) e1) hI rfl rfl (by decide) dL_505 rfl ?_
  refine nx_aload_n rfl dL_508 rfl ?_
  refine L_arg hX.1 hj hL (k := 1) (by decide) aL_509 rfl rfl rfl ?_
  refine L_arg hX.1 hj hL (k := 2) (by decide) aL_515 rfl rfl rfl ?_
  refine L_arg hX.1 hj hL (k := 3) (by decide) aL_521 rfl rfl rfl ?_
  refine L_cm [.int (xs (6 * j + 1)), .int (xs (6 * j + 2)), .int (xs (6 * j + 3))] cwl_M_deed cvl_M_deed (cM_deed X.2.1 (M0 := LM Γ x D g f) (m := x + 19) e2) hI.fr rfl rfl (Nat.le_of_ble_eq_true rfl) (by decide) dL_527 rfl ?_
  refine L_eq (t := 1521) dL_530 (by decide) ?_
  exact nx_leaf rfl
theorem Lc_8 (hI : INV Γ x A B D g) (hj : 6 * j + 6 ≤ L) (hL : L ≤ 3072) : ∃ D' g', INV Γ x A B D' g' ∧ ∀ (X : nx_X) (Z : nx_Z) (nm : String), LX Γ X b L xs → nx_J Γ X (YL nm) Z (fun _ : Unit => .inl (1521, lls b x j, [], LM Γ x D' g' f)) (.inl (535, lls b x j, [], LM Γ x D g f)) (some ()) := by
  obtain ⟨r, e1, e2⟩ := B_versions (u := 40000) (by decide) hI (xs (6 * j + 1))
  refine ⟨D, g, hI, fun X Z nm hX => ?_⟩
  refine nx_aload_n rfl dL_535 rfl ?_
  refine L_arg hX.1 hj hL (k := 1) (by decide) aL_536 rfl rfl rfl ?_
  refine L_cc [.int (xs (6 * j + 1))] cwl_C_versions cvl_C_versions (cC_versions X.2.1 (M0 := lwM Γ x g f) e1) hI rfl rfl (by decide) dL_542 rfl ?_
  refine nx_aload_n rfl dL_545 rfl ?_
  refine L_arg hX.1 hj hL (k := 1) (by decide) aL_546 rfl rfl rfl ?_
  refine L_cm [.int (xs (6 * j + 1))] cwl_M_versions cvl_M_versions (cM_versions X.2.1 (M0 := LM Γ x D g f) (m := x + 19) e2) hI.fr rfl rfl (Nat.le_of_ble_eq_true rfl) (by decide) dL_552 rfl ?_
  refine L_eq (t := 1521) dL_555 (by decide) ?_
  exact nx_leaf rfl
theorem Lc_9 (hI : INV Γ x A B D g) (hj : 6 * j + 6 ≤ L) (hL : L ≤ 3072) : ∃ D' g', INV Γ x A B D' g' ∧ ∀ (X : nx_X) (Z : nx_Z) (nm : String), LX Γ X b L xs → nx_J Γ X (YL nm) Z (fun _ : Unit => .inl (1521, lls b x j, [], LM Γ x D' g' f)) (.inl (560, lls b x j, [], LM Γ x D g f)) (some ()) := by
  obtain ⟨r, e1, e2⟩ := B_version (u := 40000) (by decide) hI (xs (6 * j + 1)) (xs (6 * j + 2)) (xs (6 * j + 3))
  refine ⟨D, g, hI, fun X Z nm hX => ?_⟩
  refine nx_aload_n rfl dL_560 rfl ?_
  refine L_arg hX.1 hj hL (k := 1) (by decide) aL_561 rfl rfl rfl ?_
  refine L_arg hX.1 hj hL (k := 2) (by decide) aL_567 rfl rfl rfl ?_
  refine L_arg hX.1 hj hL (k := 3) (by decide) aL_573 rfl rfl rfl ?_
  refine L_cc [.int (xs (6 * j + 1)), .int (xs (6 * j + 2)), .int (xs (6 * j + 3))] cwl_C_version cvl_C_version (cC_version X.2.1 (M0 := lwM Γ x g f) e1) hI rfl rfl (by decide) dL_579 rfl ?_
  refine nx_aload_n rfl dL_582 rfl ?_
  refine L_arg hX.1 hj hL (k := 1) (by decide) aL_583 rfl rfl rfl ?_
  refine L_arg hX.1 hj hL (k := 2) (by decide) aL_589 rfl rfl rfl ?_
  refine L_arg hX.1 hj hL (k := 3) (by decide) aL_595 rfl rfl rfl ?_
  refine L_cm [.int (xs (6 * j + 1)), .int (xs (6 * j + 2)), .int (xs (6 * j + 3))] cwl_M_version cvl_M_version (cM_version X.2.1 (M0 := LM Γ x D g f) (m := x + 19) e2) hI.fr rfl rfl (Nat.le_of_ble_eq_true rfl) (by decide) dL_601 rfl ?_
  refine L_eq (t := 1521) dL_604 (by decide) ?_
  exact nx_leaf rfl
theorem Lc_10 (hI : INV Γ x A B D g) (hj : 6 * j + 6 ≤ L) (hL : L ≤ 3072) : ∃ D' g', INV Γ x A B D' g' ∧ ∀ (X : nx_X) (Z : nx_Z) (nm : String), LX Γ X b L xs → nx_J Γ X (YL nm) Z (fun _ : Unit => .inl (1521, lls b x j, [], LM Γ x D' g' f)) (.inl (609, lls b x j, [], LM Γ x D g f)) (some ()) := by
  obtain ⟨r, D', g', e1, e2, hI'⟩ := B_open (u := 40000) (xs (6 * j + 1)) (xs (6 * j + 2)) (by decide) hI
  refine ⟨D', g', hI', fun X Z nm hX => ?_⟩
  refine nx_aload_n rfl dL_609 rfl ?_
  refine L_arg hX.1 hj hL (k := 1) (by decide) aL_610 rfl rfl rfl ?_
  refine L_arg hX.1 hj hL (k := 2) (by decide) aL_616 rfl rfl rfl ?_
  refine L_cc [.int (xs (6 * j + 1)), .int (xs (6 * j + 2))] cwl_C_open cvl_C_open (cC_open X.2.1 (M0 := lwM Γ x g f) e1) hI rfl rfl (by decide) dL_622 rfl ?_
  refine nx_aload_n rfl dL_625 rfl ?_
  refine L_arg hX.1 hj hL (k := 1) (by decide) aL_626 rfl rfl rfl ?_
  refine L_arg hX.1 hj hL (k := 2) (by decide) aL_632 rfl rfl rfl ?_
  refine L_cm [.int (xs (6 * j + 1)), .int (xs (6 * j + 2))] cwl_M_open cvl_M_open (cM_open X.2.1 (M0 := LM Γ x D' g f) (m := x + 19) e2) hI'.fr rfl rfl (Nat.le_of_ble_eq_true rfl) (by decide) dL_638 rfl ?_
  refine L_eq (t := 1521) dL_641 (by decide) ?_
  exact nx_leaf rfl
theorem Lc_11 (hI : INV Γ x A B D g) (hj : 6 * j + 6 ≤ L) (hL : L ≤ 3072) : ∃ D' g', INV Γ x A B D' g' ∧ ∀ (X : nx_X) (Z : nx_Z) (nm : String), LX Γ X b L xs → nx_J Γ X (YL nm) Z (fun _ : Unit => .inl (1521, lls b x j, [], LM Γ x D' g' f)) (.inl (646, lls b x j, [], LM Γ x D g f)) (some ()) := by
  obtain ⟨r, D', g', e1, e2, hI'⟩ := B_openAt (u := 40000) (xs (6 * j + 1)) (xs (6 * j + 2)) (xs (6 * j + 3)) (by decide) hI
  refine ⟨D', g', hI', fun X Z nm hX => ?_⟩
  refine nx_aload_n rfl dL_646 rfl ?_
  refine L_arg hX.1 hj hL (k := 1) (by decide) aL_647 rfl rfl rfl ?_
  refine L_arg hX.1 hj hL (k := 2) (by decide) aL_653 rfl rfl rfl ?_
  refine L_arg hX.1 hj hL (k := 3) (by decide) aL_659 rfl rfl rfl ?_
  refine L_cc [.int (xs (6 * j + 1)), .int (xs (6 * j + 2)), .int (xs (6 * j + 3))] cwl_C_openAt cvl_C_openAt (cC_openAt X.2.1 (M0 := lwM Γ x g f) e1) hI rfl rfl (by decide) dL_665 rfl ?_
  refine nx_aload_n rfl dL_668 rfl ?_
  refine L_arg hX.1 hj hL (k := 1) (by decide) aL_669 rfl rfl rfl ?_
  refine L_arg hX.1 hj hL (k := 2) (by decide) aL_675 rfl rfl rfl ?_
  refine L_arg hX.1 hj hL (k := 3) (by decide) aL_681 rfl rfl rfl ?_
  refine L_cm [.int (xs (6 * j + 1)), .int (xs (6 * j + 2)), .int (xs (6 * j + 3))] cwl_M_openAt cvl_M_openAt (cM_openAt X.2.1 (M0 := LM Γ x D' g f) (m := x + 19) e2) hI'.fr rfl rfl (Nat.le_of_ble_eq_true rfl) (by decide) dL_687 rfl ?_
  refine L_eq (t := 1521) dL_690 (by decide) ?_
  exact nx_leaf rfl
theorem Lc_12 (hI : INV Γ x A B D g) (hj : 6 * j + 6 ≤ L) (hL : L ≤ 3072) : ∃ D' g', INV Γ x A B D' g' ∧ ∀ (X : nx_X) (Z : nx_Z) (nm : String), LX Γ X b L xs → nx_J Γ X (YL nm) Z (fun _ : Unit => .inl (1521, lls b x j, [], LM Γ x D' g' f)) (.inl (695, lls b x j, [], LM Γ x D g f)) (some ()) := by
  obtain ⟨r, D', g', e1, e2, hI'⟩ := B_read (u := 40000) (xs (6 * j + 1)) (xs (6 * j + 2)) (by decide) hI
  refine ⟨D', g', hI', fun X Z nm hX => ?_⟩
  refine nx_aload_n rfl dL_695 rfl ?_
  refine L_arg hX.1 hj hL (k := 1) (by decide) aL_696 rfl rfl rfl ?_
  refine L_arg hX.1 hj hL (k := 2) (by decide) aL_702 rfl rfl rfl ?_
  refine L_cc [.int (xs (6 * j + 1)), .int (xs (6 * j + 2))] cwl_C_read cvl_C_read (cC_read X.2.1 (M0 := lwM Γ x g f) e1) hI rfl rfl (by decide) dL_708 rfl ?_
  refine nx_aload_n rfl dL_711 rfl ?_
  refine L_arg hX.1 hj hL (k := 1) (by decide) aL_712 rfl rfl rfl ?_
  refine L_arg hX.1 hj hL (k := 2) (by decide) aL_718 rfl rfl rfl ?_
  refine L_cm [.int (xs (6 * j + 1)), .int (xs (6 * j + 2))] cwl_M_read cvl_M_read (cM_read X.2.1 (M0 := LM Γ x D' g f) (m := x + 19) e2) hI'.fr rfl rfl (Nat.le_of_ble_eq_true rfl) (by decide) dL_724 rfl ?_
  refine L_eq (t := 1521) dL_727 (by decide) ?_
  exact nx_leaf rfl
end LAWC
