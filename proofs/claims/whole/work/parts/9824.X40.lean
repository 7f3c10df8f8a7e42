/-! ===== the law's cases (printed by lawgen.py) ===== -/
section LAWC
variable {Γ : nx_G} {b L x j A B : Nat} {xs : Nat → Int32} {D : nx_M} {g : mS} {f : Nat → Int64}
theorem Lc_26 (hI : INV Γ x A B D g) (hj : 6 * j + 6 ≤ L) (hL : L ≤ 3072) : ∃ D' g', INV Γ x A B D' g' ∧ ∀ (X : nx_X) (Z : nx_Z) (nm : String), LX Γ X b L xs → nx_J Γ X (YL nm) Z (fun _ : Unit => .inl (1521, lls b x j, [], LM Γ x D' g' f)) (.inl (1149, lls b x j, [], LM Γ x D g f)) (some ()) := by
  obtain ⟨r, D', g', e1, e2, hI'⟩ := B_retries (u := 40000) (by decide) hI (xs (6 * j + 1))
  refine ⟨D', g', hI', fun X Z nm hX => ?_⟩
  refine nx_aload_n rfl dL_1149 rfl ?_
  refine L_arg hX.1 hj hL (k := 1) (by decide) aL_1150 rfl rfl rfl ?_
  refine L_cc [.int (xs (6 * j + 1))] cwl_C_retries cvl_C_retries (cC_retries X.2.1 (M0 := lwM Γ x g f) e1) hI rfl rfl (by decide) dL_1156 rfl ?_
  refine nx_aload_n rfl dL_1159 rfl ?_
  refine L_arg hX.1 hj hL (k := 1) (by decide) aL_1160 rfl rfl rfl ?_
  refine L_cm [.int (xs (6 * j + 1))] cwl_M_retries cvl_M_retries (cM_retries X.2.1 (M0 := LM Γ x D' g f) (m := x + 19) e2) hI'.fr rfl rfl (Nat.le_of_ble_eq_true rfl) (by decide) dL_1166 rfl ?_
  refine L_eq (t := 1521) dL_1169 (by decide) ?_
  exact nx_leaf rfl
theorem Lc_27 (hI : INV Γ x A B D g) (hj : 6 * j + 6 ≤ L) (hL : L ≤ 3072) : ∃ D' g', INV Γ x A B D' g' ∧ ∀ (X : nx_X) (Z : nx_Z) (nm : String), LX Γ X b L xs → nx_J Γ X (YL nm) Z (fun _ : Unit => .inl (1521, lls b x j, [], LM Γ x D' g' f)) (.inl (1174, lls b x j, [], LM Γ x D g f)) (some ()) := by
  obtain ⟨r, e1, e2⟩ := B_asOf (u := 40000) (by decide) hI (xs (6 * j + 1)) (xs (6 * j + 2))
  refine ⟨D, g, hI, fun X Z nm hX => ?_⟩
  refine nx_aload_n rfl dL_1174 rfl ?_
  refine L_arg hX.1 hj hL (k := 1) (by decide) aL_1175 rfl rfl rfl ?_
  refine L_arg hX.1 hj hL (k := 2) (by decide) aL_1181 rfl rfl rfl ?_
  refine L_cc [.int (xs (6 * j + 1)), .int (xs (6 * j + 2))] cwl_C_asOf cvl_C_asOf (cC_asOf X.2.1 (M0 := lwM Γ x g f) e1) hI rfl rfl (by decide) dL_1187 rfl ?_
  refine nx_aload_n rfl dL_1190 rfl ?_
  refine L_arg hX.1 hj hL (k := 1) (by decide) aL_1191 rfl rfl rfl ?_
  refine L_arg hX.1 hj hL (k := 2) (by decide) aL_1197 rfl rfl rfl ?_
  refine L_cm [.int (xs (6 * j + 1)), .int (xs (6 * j + 2))] cwl_M_asOf cvl_M_asOf (cM_asOf X.2.1 (M0 := LM Γ x D g f) (m := x + 19) e2) hI.fr rfl rfl (Nat.le_of_ble_eq_true rfl) (by decide) dL_1203 rfl ?_
  refine L_eq (t := 1521) dL_1206 (by decide) ?_
  exact nx_leaf rfl
theorem Lc_28 (hI : INV Γ x A B D g) (hj : 6 * j + 6 ≤ L) (hL : L ≤ 3072) : ∃ D' g', INV Γ x A B D' g' ∧ ∀ (X : nx_X) (Z : nx_Z) (nm : String), LX Γ X b L xs → nx_J Γ X (YL nm) Z (fun _ : Unit => .inl (1521, lls b x j, [], LM Γ x D' g' f)) (.inl (1211, lls b x j, [], LM Γ x D g f)) (some ()) := by
  obtain ⟨r, e1, e2⟩ := B_step (u := 40000) hI (xs (6 * j + 1)) (xs (6 * j + 2)) (xs (6 * j + 3))
  refine ⟨D, g, hI, fun X Z nm hX => ?_⟩
  refine nx_aload_n rfl dL_1211 rfl ?_
  refine L_arg hX.1 hj hL (k := 1) (by decide) aL_1212 rfl rfl rfl ?_
  refine L_arg hX.1 hj hL (k := 2) (by decide) aL_1218 rfl rfl rfl ?_
  refine L_arg hX.1 hj hL (k := 3) (by decide) aL_1224 rfl rfl rfl ?_
  refine L_cc [.int (xs (6 * j + 1)), .int (xs (6 * j + 2)), .int (xs (6 * j + 3))] cwl_C_step cvl_C_step (cC_step X.2.1 (M0 := lwM Γ x g f) e1) hI rfl rfl (by decide) dL_1230 rfl ?_
  refine nx_aload_n rfl dL_1233 rfl ?_
  refine L_arg hX.1 hj hL (k := 1) (by decide) aL_1234 rfl rfl rfl ?_
  refine L_arg hX.1 hj hL (k := 2) (by decide) aL_1240 rfl rfl rfl ?_
  refine L_arg hX.1 hj hL (k := 3) (by decide) aL_1246 rfl rfl rfl ?_
  refine L_cm [.int (xs (6 * j + 1)), .int (xs (6 * j + 2)), .int (xs (6 * j + 3))] cwl_M_step cvl_M_step (cM_step X.2.1 (M0 := LM Γ x D g f) (m := x + 19) e2) hI.fr rfl rfl (Nat.le_of_ble_eq_true rfl) (by decide) dL_1252 rfl ?_
  refine L_eq (t := 1521) dL_1255 (by decide) ?_
  exact nx_leaf rfl
theorem Lc_29 (hI : INV Γ x A B D g) (hj : 6 * j + 6 ≤ L) (hL : L ≤ 3072) : ∃ D' g', INV Γ x A B D' g' ∧ ∀ (X : nx_X) (Z : nx_Z) (nm : String), LX Γ X b L xs → nx_J Γ X (YL nm) Z (fun _ : Unit => .inl (1521, lls b x j, [], LM Γ x D' g' f)) (.inl (1260, lls b x j, [], LM Γ x D g f)) (some ()) := by
  obtain ⟨r, D', g', e1, e2, hI'⟩ := B_run (u := 40000) (by decide) hI (xs (6 * j + 1)) (xs (6 * j + 2))
  refine ⟨D', g', hI', fun X Z nm hX => ?_⟩
  refine nx_aload_n rfl dL_1260 rfl ?_
  refine L_arg hX.1 hj hL (k := 1) (by decide) aL_1261 rfl rfl rfl ?_
  refine L_arg hX.1 hj hL (k := 2) (by decide) aL_1267 rfl rfl rfl ?_
  refine L_cc [.int (xs (6 * j + 1)), .int (xs (6 * j + 2))] cwl_C_run cvl_C_run (cC_run X.2.1 (M0 := lwM Γ x g f) e1) hI rfl rfl (by decide) dL_1273 rfl ?_
  refine nx_aload_n rfl dL_1276 rfl ?_
  refine L_arg hX.1 hj hL (k := 1) (by decide) aL_1277 rfl rfl rfl ?_
  refine L_arg hX.1 hj hL (k := 2) (by decide) aL_1283 rfl rfl rfl ?_
  refine L_cm [.int (xs (6 * j + 1)), .int (xs (6 * j + 2))] cwl_M_run cvl_M_run (cM_run X.2.1 (M0 := LM Γ x D' g f) (m := x + 19) e2) hI'.fr rfl rfl (Nat.le_of_ble_eq_true rfl) (by decide) dL_1289 rfl ?_
  refine L_eq (t := 1521) dL_1292 (by decide) ?_
  exact nx_leaf rfl
theorem Lc_30 (hI : INV Γ x A B D g) (hj : 6 * j + 6 ≤ L) (hL : L ≤ 3072) : ∃ D' g', INV Γ x A B D' g' ∧ ∀ (X : nx_X) (Z : nx_Z) (nm : String), LX Γ X b L xs → nx_J Γ X (YL nm) Z (fun _ : Unit => .inl (1521, lls b x j, [], LM Γ x D' g' f)) (.inl (1297, lls b x j, [], LM Γ x D g f)) (some ()) := by
  obtain ⟨r, D', g', e1, e2, hI'⟩ := B_perform (u := 40000) (by decide) hI (xs (6 * j + 1))
  refine ⟨D', g', hI', fun X Z nm hX => ?_⟩
  refine nx_aload_n rfl dL_1297 rfl ?_
  refine L_arg hX.1 hj hL (k := 1) (by decide) aL_1298 rfl rfl rfl ?_
  refine L_cc [.int (xs (6 * j + 1))] cwl_C_perform cvl_C_perform (cC_perform X.2.1 (M0 := lwM Γ x g f) e1) hI rfl rfl (by decide) dL_1304 rfl ?_
  refine nx_aload_n rfl dL_1307 rfl ?_
  refine L_arg hX.1 hj hL (k := 1) (by decide) aL_1308 rfl rfl rfl ?_
  refine L_cm [.int (xs (6 * j + 1))] cwl_M_perform cvl_M_perform (cM_perform X.2.1 (M0 := LM Γ x D' g f) (m := x + 19) e2) hI'.fr rfl rfl (Nat.le_of_ble_eq_true rfl) (by decide) dL_1314 rfl ?_
  refine L_eq (t := 1521) dL_1317 (by decide) ?_
  exact nx_leaf rfl
theorem Lc_31 (hI : INV Γ x A B D g) (hj : 6 * j + 6 ≤ L) (hL : L ≤ 3072) : ∃ D' g', INV Γ x A B D' g' ∧ ∀ (X : nx_X) (Z : nx_Z) (nm : String), LX Γ X b L xs → nx_J Γ X (YL nm) Z (fun _ : Unit => .inl (1521, lls b x j, [], LM Γ x D' g' f)) (.inl (1322, lls b x j, [], LM Γ x D g f)) (some ()) := by
  obtain ⟨r, D', g', e1, e2, hI'⟩ := B_mix (u := 40000) (by decide) hI (xs (6 * j + 1)) (xs (6 * j + 2)) (xs (6 * j + 3))
  refine ⟨D', g', hI', fun X Z nm hX => ?_⟩
  refine nx_aload_n rfl dL_1322 rfl ?_
  refine L_arg hX.1 hj hL (k := 1) (by decide) aL_1323 rfl rfl rfl ?_
  refine L_arg hX.1 hj hL (k := 2) (by decide) aL_1329 rfl rfl rfl ?_
  refine L_arg hX.1 hj hL (k := 3) (by decide) aL_1335 rfl rfl rfl ?_
  refine L_cc [.int (xs (6 * j + 1)), .int (xs (6 * j + 2)), .int (xs (6 * j + 3))] cwl_C_mix cvl_C_mix (cC_mix X.2.1 (M0 := lwM Γ x g f) e1) hI rfl rfl (by decide) dL_1341 rfl ?_
  refine nx_aload_n rfl dL_1344 rfl ?_
  refine L_arg hX.1 hj hL (k := 1) (by decide) aL_1345 rfl rfl rfl ?_
  refine L_arg hX.1 hj hL (k := 2) (by decide) aL_1351 rfl rfl rfl ?_
  refine L_arg hX.1 hj hL (k := 3) (by decide) aL_1357 rfl rfl rfl ?_
  refine L_cm [.int (xs (6 * j + 1)), .int (xs (6 * j + 2)), .int (xs (6 * j + 3))] cwl_M_mix cvl_M_mix (cM_mix X.2.1 (M0 := LM Γ x D' g f) (m := x + 19) e2) hI'.fr rfl rfl (Nat.le_of_ble_eq_true rfl) (by decide) dL_1363 rfl ?_
  refine L_eq (t := 1521) dL_1366 (by decide) ?_
  exact nx_leaf rfl
theorem Lc_32 (hI : INV Γ x A B D g) (hj : 6 * j + 6 ≤ L) (hL : L ≤ 3072) : ∃ D' g', INV Γ x A B D' g' ∧ ∀ (X : nx_X) (Z : nx_Z) (nm : String), LX Γ X b L xs → nx_J Γ X (YL nm) Z (fun _ : Unit => .inl (1521, lls b x j, [], LM Γ x D' g' f)) (.inl (1371, lls b x j, [], LM Γ x D g f)) (some ()) := by
  obtain ⟨r, D', g', e1, e2, hI'⟩ := B_odds (u := 40000) (by decide) hI (xs (6 * j + 1)) (xs (6 * j + 2))
  refine ⟨D', g', hI', fun X Z nm hX => ?_⟩
  refine nx_aload_n rfl dL_1371 rfl ?_
  refine L_arg hX.1 hj hL (k := 1) (by decide) aL_1372 rfl rfl rfl ?_
  refine L_arg hX.1 hj hL (k := 2) (by decide) aL_1378 rfl rfl rfl ?_
  refine L_cc [.int (xs (6 * j + 1)), .int (xs (6 * j + 2))] cwl_C_odds cvl_C_odds (cC_odds X.2.1 (M0 := lwM Γ x g f) e1) hI rfl rfl (by decide) dL_1384 rfl ?_
  refine nx_aload_n rfl dL_1387 rfl ?_
  refine L_arg hX.1 hj hL (k := 1) (by decide) aL_1388 rfl rfl rfl ?_
  refine L_arg hX.1 hj hL (k := 2) (by decide) aL_1394 rfl rfl rfl ?_
  refine L_cm [.int (xs (6 * j + 1)), .int (xs (6 * j + 2))] cwl_M_odds cvl_M_odds (cM_odds X.2.1 (M0 := LM Γ x D' g f) (m := x + 19) e2) hI'.fr rfl rfl (Nat.le_of_ble_eq_true rfl) (by decide) dL_1400 rfl ?_
  refine L_eq (t := 1521) dL_1403 (by decide) ?_
  exact nx_leaf rfl
theorem Lc_33 (hI : INV Γ x A B D g) (hj : 6 * j + 6 ≤ L) (hL : L ≤ 3072) : ∃ D' g', INV Γ x A B D' g' ∧ ∀ (X : nx_X) (Z : nx_Z) (nm : String), LX Γ X b L xs → nx_J Γ X (YL nm) Z (fun _ : Unit => .inl (1521, lls b x j, [], LM Γ x D' g' f)) (.inl (1408, lls b x j, [], LM Γ x D g f)) (some ()) := by
  obtain ⟨r, e1, e2⟩ := B_shares (u := 40000) (by decide) hI (xs (6 * j + 1)) (xs (6 * j + 2))
  refine ⟨D, g, hI, fun X Z nm hX => ?_⟩
  refine nx_aload_n rfl dL_1408 rfl ?_
  refine L_arg hX.1 hj hL (k := 1) (by decide) aL_1409 rfl rfl rfl ?_
  refine L_arg hX.1 hj hL (k := 2) (by decide) aL_1415 rfl rfl rfl ?_
  refine L_cc [.int (xs (6 * j + 1)), .int (xs (6 * j + 2))] cwl_C_shares cvl_C_shares (cC_shares X.2.1 (M0 := lwM Γ x g f) e1) hI rfl rfl (by decide) dL_1421 rfl ?_
  refine nx_aload_n rfl dL_1424 rfl ?_
  refine L_arg hX.1 hj hL (k := 1) (by decide) aL_1425 rfl rfl rfl ?_
  refine L_arg hX.1 hj hL (k := 2) (by decide) aL_1431 rfl rfl rfl ?_
  refine L_cm [.int (xs (6 * j + 1)), .int (xs (6 * j + 2))] cwl_M_shares cvl_M_shares (cM_shares X.2.1 (M0 := LM Γ x D g f) (m := x + 19) e2) hI.fr rfl rfl (Nat.le_of_ble_eq_true rfl) (by decide) dL_1437 rfl ?_
  refine L_eq (t := 1521) dL_1440 (by decide) ?_
  exact nx_leaf rfl
theorem Lc_34 (hI : INV Γ x A B D g) (hj : 6 * j + 6 ≤ L) (hL : L ≤ 3072) : ∃ D' g', INV Γ x A B D' g' ∧ ∀ (X : nx_X) (Z : nx_Z) (nm : String), LX Γ X b L xs → nx_J Γ X (YL nm) Z (fun _ : Unit => .inl (1521, lls b x j, [], LM Γ x D' g' f)) (.inl (1445, lls b x j, [], LM Γ x D g f)) (some ()) := by
  obtain ⟨r, D', g', e1, e2, hI'⟩ := B_all (u := 40000) (by decide) hI (xs (6 * j + 1))
  refine ⟨D', g', hI', fun X Z nm hX => ?_⟩
  refine nx_aload_n rfl dL_1445 rfl ?_
  refine L_arg hX.1 hj hL (k := 1) (by decide) aL_1446 rfl rfl rfl ?_
  refine L_cc [.int (xs (6 * j + 1))] cwl_C_all cvl_C_all (cC_all X.2.1 (M0 := lwM Γ x g f) e1) hI rfl rfl (by decide) dL_1452 rfl ?_
  refine nx_aload_n rfl dL_1455 rfl ?_
  refine L_arg hX.1 hj hL (k := 1) (by decide) aL_1456 rfl rfl rfl ?_
  refine L_cm [.int (xs (6 * j + 1))] cwl_M_all cvl_M_all (cM_all X.2.1 (M0 := LM Γ x D' g f) (m := x + 19) e2) hI'.fr rfl rfl (Nat.le_of_ble_eq_true rfl) (by decide) dL_1462 rfl ?_
  refine L_eq (t := 1521) dL_1465 (by decide) ?_
  exact nx_leaf rfl
theorem Lc_35 (hI : INV Γ x A B D g) (hj : 6 * j + 6 ≤ L) (hL : L ≤ 3072) : ∃ D' g', INV Γ x A B D' g' ∧ ∀ (X : nx_X) (Z : nx_Z) (nm : String), LX Γ X b L xs → nx_J Γ X (YL nm) Z (fun _ : Unit => .inl (1521, lls b x j, [], LM Γ x D' g' f)) (.inl (1470, lls b x j, [], LM Γ x D g f)) (some ()) := by
  obtain ⟨r, D', g', e1, e2, hI'⟩ := B_image (u := 40000) (by decide) hI
  refine ⟨D', g', hI', fun X Z nm hX => ?_⟩
  refine nx_aload_n rfl dL_1470 rfl ?_
  refine L_cc [] cwl_C_image cvl_C_image (cC_image X.2.1 (M0 := lwM Γ x g f) e1) hI rfl rfl (by decide) dL_1471 rfl ?_
  refine nx_aload_n rfl dL_1474 rfl ?_
  refine L_cm [] cwl_M_image cvl_M_image (cM_image X.2.1 (M0 := LM Γ x D' g f) (m := x + 19) e2) hI'.fr rfl rfl (Nat.le_of_ble_eq_true rfl) (by decide) dL_1475 rfl ?_
  refine L_eq (t := 1521) dL_1478 (by decide) ?_
  exact nx_leaf rfl
theorem Lc_36 (hI : INV Γ x A B D g) (hj : 6 * j + 6 ≤ L) (hL : L ≤ 3072) : ∃ D' g', INV Γ x A B D' g' ∧ ∀ (X : nx_X) (Z : nx_Z) (nm : String), LX Γ X b L xs → nx_J Γ X (YL nm) Z (fun _ : Unit => .inl (1521, lls b x j, [], LM Γ x D' g' f)) (.inl (1483, lls b x j, [], LM Γ x D g f)) (some ()) := by
  obtain ⟨r, D', g', e1, e2, hI'⟩ := B_back (u := 40000) (by decide) hI
  refine ⟨D', g', hI', fun X Z nm hX => ?_⟩
  refine nx_aload_n rfl dL_1483 rfl ?_
  refine L_cc [] cwl_C_back cvl_C_back (cC_back X.2.1 (M0 := lwM Γ x g f) e1) hI rfl rfl (by decide) dL_1484 rfl ?_
  refine nx_aload_n rfl dL_1487 rfl ?_
  refine L_cm [] cwl_M_back cvl_M_back (cM_back X.2.1 (M0 := LM Γ x D' g f) (m := x + 19) e2) hI'.fr rfl rfl (Nat.le_of_ble_eq_true rfl) (by decide) dL_1488 rfl ?_
  refine L_eq (t := 1521) dL_1491 (by decide) ?_
  exact nx_leaf rfl
theorem Lc_37 (hI : INV Γ x A B D g) (hj : 6 * j + 6 ≤ L) (hL : L ≤ 3072) : ∃ D' g', INV Γ x A B D' g' ∧ ∀ (X : nx_X) (Z : nx_Z) (nm : String), LX Γ X b L xs → nx_J Γ X (YL nm) Z (fun _ : Unit => .inl (1521, lls b x j, [], LM Γ x D' g' f)) (.inl (1496, lls b x j, [], LM Γ x D g f)) (some ()) := by
  obtain ⟨r, e1, e2⟩ := B_count (u := 40000) hI (xs (6 * j + 1))
  refine ⟨D, g, hI, fun X Z nm hX => ?_⟩
  refine nx_aload_n rfl dL_1496 rfl ?_
  refine L_arg hX.1 hj hL (k := 1) (by decide) aL_1497 rfl rfl rfl ?_
  refine L_cc [.int (xs (6 * j + 1))] cwl_C_count cvl_C_count (cC_count X.2.1 (M0 := lwM Γ x g f) e1) hI rfl rfl (by decide) dL_1503 rfl ?_
  refine nx_aload_n rfl dL_1506 rfl ?_
  refine L_arg hX.1 hj hL (k := 1) (by decide) aL_1507 rfl rfl rfl ?_
  refine L_cm [.int (xs (6 * j + 1))] cwl_M_count cvl_M_count (cM_count X.2.1 (M0 := LM Γ x D g f) (m := x + 19) e2) hI.fr rfl rfl (Nat.le_of_ble_eq_true rfl) (by decide) dL_1513 rfl ?_
  refine L_eq (t := 1521) dL_1516 (by decide) ?_
  exact nx_leaf rfl
end LAWC
