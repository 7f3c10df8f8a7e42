/-! ===== the law's cases (printed by lawgen.py) ===== -/
section LAWC
variable {Γ : nx_G} {b L x j A B : Nat} {xs : Nat → Int32} {D : nx_M} {g : mS} {f : Nat → Int64}
def yrL (a b : Int32) : Int64 := (a.toInt64 <<< ((iz 32).toInt64 &&& 63)) ||| (b.toInt64 &&& 4294967295)
theorem Lc_13 (hI : INV Γ x A B D g) (hj : 6 * j + 6 ≤ L) (hL : L ≤ 3072) : ∃ D' g', INV Γ x A B D' g' ∧ ∀ (X : nx_X) (Z : nx_Z) (nm : String), LX Γ X b L xs → nx_J Γ X (YL nm) Z (fun _ : Unit => .inl (1521, lls b x j, [], LM Γ x D' g' f)) (.inl (732, lls b x j, [], LM Γ x D g f)) (some ()) := by
  obtain ⟨r, D', g', e1, e2, hI'⟩ := B_write (u := 40000) (xs (6 * j + 1)) (xs (6 * j + 2)) (xs (6 * j + 3)) (by decide) hI
  refine ⟨D', g', hI', fun X Z nm hX => ?_⟩
  refine nx_aload_n rfl dL_732 rfl ?_
  refine L_arg hX.1 hj hL (k := 1) (by decide) aL_733 rfl rfl rfl ?_
  refine L_arg hX.1 hj hL (k := 2) (by decide) aL_739 rfl rfl rfl ?_
  refine L_arg hX.1 hj hL (k := 3) (by decide) aL_745 rfl rfl rfl ?_
  refine L_cc [.int (xs (6 * j + 1)), .int (xs (6 * j + 2)), .int (xs (6 * j + 3))] cwl_C_write cvl_C_write (cC_write X.2.1 (M0 := lwM Γ x g f) e1) hI rfl rfl (by decide) dL_751 rfl ?_
  refine nx_aload_n rfl dL_754 rfl ?_
  refine L_arg hX.1 hj hL (k := 1) (by decide) aL_755 rfl rfl rfl ?_
  refine L_arg hX.1 hj hL (k := 2) (by decide) aL_761 rfl rfl rfl ?_
  refine L_arg hX.1 hj hL (k := 3) (by decide) aL_767 rfl rfl rfl ?_
  refine L_cm [.int (xs (6 * j + 1)), .int (xs (6 * j + 2)), .int (xs (6 * j + 3))] cwl_M_write cvl_M_write (cM_write X.2.1 (M0 := LM Γ x D' g f) (m := x + 19) e2) hI'.fr rfl rfl (Nat.le_of_ble_eq_true rfl) (by decide) dL_773 rfl ?_
  refine L_eq (t := 1521) dL_776 (by decide) ?_
  exact nx_leaf rfl
theorem Lc_14 (hI : INV Γ x A B D g) (hj : 6 * j + 6 ≤ L) (hL : L ≤ 3072) : ∃ D' g', INV Γ x A B D' g' ∧ ∀ (X : nx_X) (Z : nx_Z) (nm : String), LX Γ X b L xs → nx_J Γ X (YL nm) Z (fun _ : Unit => .inl (1521, lls b x j, [], LM Γ x D' g' f)) (.inl (781, lls b x j, [], LM Γ x D g f)) (some ()) := by
  obtain ⟨r, D', g', e1, e2, hI'⟩ := B_commit (u := 40000) (xs (6 * j + 1)) (by decide) hI
  refine ⟨D', g', hI', fun X Z nm hX => ?_⟩
  refine nx_aload_n rfl dL_781 rfl ?_
  refine L_arg hX.1 hj hL (k := 1) (by decide) aL_782 rfl rfl rfl ?_
  refine L_cc [.int (xs (6 * j + 1))] cwl_C_commit cvl_C_commit (cC_commit X.2.1 (M0 := lwM Γ x g f) e1) hI rfl rfl (by decide) dL_788 rfl ?_
  refine nx_aload_n rfl dL_791 rfl ?_
  refine L_arg hX.1 hj hL (k := 1) (by decide) aL_792 rfl rfl rfl ?_
  refine L_cm [.int (xs (6 * j + 1))] cwl_M_commit cvl_M_commit (cM_commit X.2.1 (M0 := LM Γ x D' g f) (m := x + 19) e2) hI'.fr rfl rfl (Nat.le_of_ble_eq_true rfl) (by decide) dL_798 rfl ?_
  refine L_eq (t := 1521) dL_801 (by decide) ?_
  exact nx_leaf rfl
theorem Lc_15 (hI : INV Γ x A B D g) (hj : 6 * j + 6 ≤ L) (hL : L ≤ 3072) : ∃ D' g', INV Γ x A B D' g' ∧ ∀ (X : nx_X) (Z : nx_Z) (nm : String), LX Γ X b L xs → nx_J Γ X (YL nm) Z (fun _ : Unit => .inl (1521, lls b x j, [], LM Γ x D' g' f)) (.inl (806, lls b x j, [], LM Γ x D g f)) (some ()) := by
  obtain ⟨r, D', g', e1, e2, hI'⟩ := B_abort (u := 40000) (xs (6 * j + 1)) (by decide) hI
  refine ⟨D', g', hI', fun X Z nm hX => ?_⟩
  refine nx_aload_n rfl dL_806 rfl ?_
  refine L_arg hX.1 hj hL (k := 1) (by decide) aL_807 rfl rfl rfl ?_
  refine L_cc [.int (xs (6 * j + 1))] cwl_C_abort cvl_C_abort (cC_abort X.2.1 (M0 := lwM Γ x g f) e1) hI rfl rfl (by decide) dL_813 rfl ?_
  refine nx_aload_n rfl dL_816 rfl ?_
  refine L_arg hX.1 hj hL (k := 1) (by decide) aL_817 rfl rfl rfl ?_
  refine L_cm [.int (xs (6 * j + 1))] cwl_M_abort cvl_M_abort (cM_abort X.2.1 (M0 := LM Γ x D' g f) (m := x + 19) e2) hI'.fr rfl rfl (Nat.le_of_ble_eq_true rfl) (by decide) dL_823 rfl ?_
  refine L_eq (t := 1521) dL_826 (by decide) ?_
  exact nx_leaf rfl
theorem Lc_16 (hI : INV Γ x A B D g) (hj : 6 * j + 6 ≤ L) (hL : L ≤ 3072) : ∃ D' g', INV Γ x A B D' g' ∧ ∀ (X : nx_X) (Z : nx_Z) (nm : String), LX Γ X b L xs → nx_J Γ X (YL nm) Z (fun _ : Unit => .inl (1521, lls b x j, [], LM Γ x D' g' f)) (.inl (831, lls b x j, [], LM Γ x D g f)) (some ()) := by
  obtain ⟨r, D', g', e1, e2, hI'⟩ := B_retry (u := 40000) (xs (6 * j + 1)) (by decide) hI
  refine ⟨D', g', hI', fun X Z nm hX => ?_⟩
  refine nx_aload_n rfl dL_831 rfl ?_
  refine L_arg hX.1 hj hL (k := 1) (by decide) aL_832 rfl rfl rfl ?_
  refine L_cc [.int (xs (6 * j + 1))] cwl_C_retry cvl_C_retry (cC_retry X.2.1 (M0 := lwM Γ x g f) e1) hI rfl rfl (by decide) dL_838 rfl ?_
  refine nx_aload_n rfl dL_841 rfl ?_
  refine L_arg hX.1 hj hL (k := 1) (by decide) aL_842 rfl rfl rfl ?_
  refine L_cm [.int (xs (6 * j + 1))] cwl_M_retry cvl_M_retry (cM_retry X.2.1 (M0 := LM Γ x D' g f) (m := x + 19) e2) hI'.fr rfl rfl (Nat.le_of_ble_eq_true rfl) (by decide) dL_848 rfl ?_
  refine L_eq (t := 1521) dL_851 (by decide) ?_
  exact nx_leaf rfl
theorem Lc_17 (hI : INV Γ x A B D g) (hj : 6 * j + 6 ≤ L) (hL : L ≤ 3072) : ∃ D' g', INV Γ x A B D' g' ∧ ∀ (X : nx_X) (Z : nx_Z) (nm : String), LX Γ X b L xs → nx_J Γ X (YL nm) Z (fun _ : Unit => .inl (1521, lls b x j, [], LM Γ x D' g' f)) (.inl (856, lls b x j, [], LM Γ x D g f)) (some ()) := by
  obtain ⟨r, D', g', e1, e2, hI'⟩ := B_prune (u := 40000) (by decide) hI
  refine ⟨D', g', hI', fun X Z nm hX => ?_⟩
  refine nx_aload_n rfl dL_856 rfl ?_
  refine L_cc [] cwl_C_prune cvl_C_prune (cC_prune X.2.1 (M0 := lwM Γ x g f) e1) hI rfl rfl (by decide) dL_857 rfl ?_
  refine nx_aload_n rfl dL_860 rfl ?_
  refine L_cm [] cwl_M_prune cvl_M_prune (cM_prune X.2.1 (M0 := LM Γ x D' g f) (m := x + 19) e2) hI'.fr rfl rfl (Nat.le_of_ble_eq_true rfl) (by decide) dL_861 rfl ?_
  refine L_eq (t := 1521) dL_864 (by decide) ?_
  exact nx_leaf rfl
theorem Lc_18 (hI : INV Γ x A B D g) (hj : 6 * j + 6 ≤ L) (hL : L ≤ 3072) : ∃ D' g', INV Γ x A B D' g' ∧ ∀ (X : nx_X) (Z : nx_Z) (nm : String), LX Γ X b L xs → nx_J Γ X (YL nm) Z (fun _ : Unit => .inl (1521, lls b x j, [], LM Γ x D' g' f)) (.inl (869, lls b x j, [], LM Γ x D g f)) (some ()) := by
  obtain ⟨r, D', g', e1, e2, hI'⟩ := B_years (u := 40000) (by decide) hI (xs (6 * j + 1)) (yrL (xs (6 * j + 2)) (xs (6 * j + 3)))
  refine ⟨D', g', hI', fun X Z nm hX => ?_⟩
  refine nx_aload_n rfl dL_869 rfl ?_
  refine L_arg hX.1 hj hL (k := 1) (by decide) aL_870 rfl rfl rfl ?_
  refine L_arg hX.1 hj hL (k := 2) (by decide) aL_876 rfl rfl rfl ?_
  refine nx_i2l dL_882 rfl ?_
  refine nx_bipush (by decide +kernel) dL_883 rfl ?_
  refine nx_lshl dL_885 rfl ?_
  refine L_arg hX.1 hj hL (k := 3) (by decide) aL_886 rfl rfl rfl ?_
  refine nx_i2l dL_892 rfl ?_
  refine nx_ldc2 wl_1748 dL_893 rfl ?_
  refine nx_land dL_896 rfl ?_
  refine nx_lor dL_897 rfl ?_
  refine L_cc [.int (xs (6 * j + 1)), .long (yrL (xs (6 * j + 2)) (xs (6 * j + 3)))] cwl_C_years cvl_C_years (cC_years X.2.1 (M0 := lwM Γ x g f) e1) hI rfl rfl (by decide) dL_898 rfl ?_
  refine nx_aload_n rfl dL_901 rfl ?_
  refine L_arg hX.1 hj hL (k := 1) (by decide) aL_902 rfl rfl rfl ?_
  refine L_arg hX.1 hj hL (k := 2) (by decide) aL_908 rfl rfl rfl ?_
  refine nx_i2l dL_914 rfl ?_
  refine nx_bipush (by decide +kernel) dL_915 rfl ?_
  refine nx_lshl dL_917 rfl ?_
  refine L_arg hX.1 hj hL (k := 3) (by decide) aL_918 rfl rfl rfl ?_
  refine nx_i2l dL_924 rfl ?_
  refine nx_ldc2 wl_1748 dL_925 rfl ?_
  refine nx_land dL_928 rfl ?_
  refine nx_lor dL_929 rfl ?_
  refine L_cm [.int (xs (6 * j + 1)), .long (yrL (xs (6 * j + 2)) (xs (6 * j + 3)))] cwl_M_years cvl_M_years (cM_years X.2.1 (M0 := LM Γ x D' g f) (m := x + 19) e2) hI'.fr rfl rfl (Nat.le_of_ble_eq_true rfl) (by decide) dL_930 rfl ?_
  refine L_eq (t := 1521) dL_933 (by decide) ?_
  exact nx_leaf rfl
theorem Lc_19 (hI : INV Γ x A B D g) (hj : 6 * j + 6 ≤ L) (hL : L ≤ 3072) : ∃ D' g', INV Γ x A B D' g' ∧ ∀ (X : nx_X) (Z : nx_Z) (nm : String), LX Γ X b L xs → nx_J Γ X (YL nm) Z (fun _ : Unit => .inl (1521, lls b x j, [], LM Γ x D' g' f)) (.inl (938, lls b x j, [], LM Γ x D g f)) (some ()) := by
  obtain ⟨r, e1, e2⟩ := B_status (u := 40000) hI (xs (6 * j + 1))
  refine ⟨D, g, hI, fun X Z nm hX => ?_⟩
  refine nx_aload_n rfl dL_938 rfl ?_
  refine L_arg hX.1 hj hL (k := 1) (by decide) aL_939 rfl rfl rfl ?_
  refine L_cc [.int (xs (6 * j + 1))] cwl_C_status cvl_C_status (cC_status X.2.1 (M0 := lwM Γ x g f) e1) hI rfl rfl (by decide) dL_945 rfl ?_
  refine nx_aload_n rfl dL_948 rfl ?_
  refine L_arg hX.1 hj hL (k := 1) (by decide) aL_949 rfl rfl rfl ?_
  refine L_cm [.int (xs (6 * j + 1))] cwl_M_status cvl_M_status (cM_status X.2.1 (M0 := LM Γ x D g f) (m := x + 19) e2) hI.fr rfl rfl (Nat.le_of_ble_eq_true rfl) (by decide) dL_955 rfl ?_
  refine L_eq (t := 1521) dL_958 (by decide) ?_
  exact nx_leaf rfl
theorem Lc_20 (hI : INV Γ x A B D g) (hj : 6 * j + 6 ≤ L) (hL : L ≤ 3072) : ∃ D' g', INV Γ x A B D' g' ∧ ∀ (X : nx_X) (Z : nx_Z) (nm : String), LX Γ X b L xs → nx_J Γ X (YL nm) Z (fun _ : Unit => .inl (1521, lls b x j, [], LM Γ x D' g' f)) (.inl (963, lls b x j, [], LM Γ x D g f)) (some ()) := by
  obtain ⟨r, D', g', e1, e2, hI'⟩ := B_undo (u := 40000) (by decide) hI
  refine ⟨D', g', hI', fun X Z nm hX => ?_⟩
  refine nx_aload_n rfl dL_963 rfl ?_
  refine L_cc [] cwl_C_undo cvl_C_undo (cC_undo X.2.1 (M0 := lwM Γ x g f) e1) hI rfl rfl (by decide) dL_964 rfl ?_
  refine nx_aload_n rfl dL_967 rfl ?_
  refine L_cm [] cwl_M_undo cvl_M_undo (cM_undo X.2.1 (M0 := LM Γ x D' g f) (m := x + 19) e2) hI'.fr rfl rfl (Nat.le_of_ble_eq_true rfl) (by decide) dL_968 rfl ?_
  refine L_eq (t := 1521) dL_971 (by decide) ?_
  exact nx_leaf rfl
theorem Lc_21 (hI : INV Γ x A B D g) (hj : 6 * j + 6 ≤ L) (hL : L ≤ 3072) : ∃ D' g', INV Γ x A B D' g' ∧ ∀ (X : nx_X) (Z : nx_Z) (nm : String), LX Γ X b L xs → nx_J Γ X (YL nm) Z (fun _ : Unit => .inl (1521, lls b x j, [], LM Γ x D' g' f)) (.inl (976, lls b x j, [], LM Γ x D g f)) (some ()) := by
  obtain ⟨r, e1, e2⟩ := B_log (u := 40000) (by decide) hI (xs (6 * j + 1)) (xs (6 * j + 2))
  refine ⟨D, g, hI, fun X Z nm hX => ?_⟩
  refine nx_aload_n rfl dL_976 rfl ?_
  refine L_arg hX.1 hj hL (k := 1) (by decide) aL_977 rfl rfl rfl ?_
  refine L_arg hX.1 hj hL (k := 2) (by decide) aL_983 rfl rfl rfl ?_
  refine L_cc [.int (xs (6 * j + 1)), .int (xs (6 * j + 2))] cwl_C_log cvl_C_log (cC_log X.2.1 (M0 := lwM Γ x g f) e1) hI rfl rfl (by decide) dL_989 rfl ?_
  refine nx_aload_n rfl dL_992 rfl ?_
  refine L_arg hX.1 hj hL (k := 1) (by decide) aL_993 rfl rfl rfl ?_
  refine L_arg hX.1 hj hL (k := 2) (by decide) aL_999 rfl rfl rfl ?_
  refine L_cm [.int (xs (6 * j + 1)), .int (xs (6 * j + 2))] cwl_M_log cvl_M_log (cM_log X.2.1 (M0 := LM Γ x D g f) (m := x + 19) e2) hI.fr rfl rfl (Nat.le_of_ble_eq_true rfl) (by decide) dL_1005 rfl ?_
  refine L_eq (t := 1521) dL_1008 (by decide) ?_
  exact nx_leaf rfl
theorem Lc_22 (hI : INV Γ x A B D g) (hj : 6 * j + 6 ≤ L) (hL : L ≤ 3072) : ∃ D' g', INV Γ x A B D' g' ∧ ∀ (X : nx_X) (Z : nx_Z) (nm : String), LX Γ X b L xs → nx_J Γ X (YL nm) Z (fun _ : Unit => .inl (1521, lls b x j, [], LM Γ x D' g' f)) (.inl (1013, lls b x j, [], LM Γ x D g f)) (some ()) := by
  obtain ⟨r, e1, e2⟩ := B_would (u := 40000) (by decide) hI (xs (6 * j + 1)) (xs (6 * j + 2)) (xs (6 * j + 3))
  refine ⟨D, g, hI, fun X Z nm hX => ?_⟩
  refine nx_aload_n rfl dL_1013 rfl ?_
  refine L_arg hX.1 hj hL (k := 1) (by decide) aL_1014 rfl rfl rfl ?_
  refine L_arg hX.1 hj hL (k := 2) (by decide) aL_1020 rfl rfl rfl ?_
  refine L_arg hX.1 hj hL (k := 3) (by decide) aL_1026 rfl rfl rfl ?_
  refine L_cc [.int (xs (6 * j + 1)), .int (xs (6 * j + 2)), .int (xs (6 * j + 3))] cwl_C_would cvl_C_would (cC_would X.2.1 (M0 := lwM Γ x g f) e1) hI rfl rfl (by decide) dL_1032 rfl ?_
  refine nx_aload_n rfl dL_1035 rfl ?_
  refine L_arg hX.1 hj hL (k := 1) (by decide) aL_1036 rfl rfl rfl ?_
  refine L_arg hX.1 hj hL (k := 2) (by decide) aL_1042 rfl rfl rfl ?_
  refine L_arg hX.1 hj hL (k := 3) (by decide) aL_1048 rfl rfl rfl ?_
  refine L_cm [.int (xs (6 * j + 1)), .int (xs (6 * j + 2)), .int (xs (6 * j + 3))] cwl_M_would cvl_M_would (cM_would X.2.1 (M0 := LM Γ x D g f) (m := x + 19) e2) hI.fr rfl rfl (Nat.le_of_ble_eq_true rfl) (by decide) dL_1054 rfl ?_
  refine L_eq (t := 1521) dL_1057 (by decide) ?_
  exact nx_leaf rfl
theorem Lc_23 (hI : INV Γ x A B D g) (hj : 6 * j + 6 ≤ L) (hL : L ≤ 3072) : ∃ D' g', INV Γ x A B D' g' ∧ ∀ (X : nx_X) (Z : nx_Z) (nm : String), LX Γ X b L xs → nx_J Γ X (YL nm) Z (fun _ : Unit => .inl (1521, lls b x j, [], LM Γ x D' g' f)) (.inl (1062, lls b x j, [], LM Γ x D g f)) (some ()) := by
  obtain ⟨r, e1, e2⟩ := B_since (u := 40000) (by decide) hI (xs (6 * j + 1)) (xs (6 * j + 2))
  refine ⟨D, g, hI, fun X Z nm hX => ?_⟩
  refine nx_aload_n rfl dL_1062 rfl ?_
  refine L_arg hX.1 hj hL (k := 1) (by decide) aL_1063 rfl rfl rfl ?_
  refine L_arg hX.1 hj hL (k := 2) (by decide) aL_1069 rfl rfl rfl ?_
  refine L_cc [.int (xs (6 * j + 1)), .int (xs (6 * j + 2))] cwl_C_since cvl_C_since (cC_since X.2.1 (M0 := lwM Γ x g f) e1) hI rfl rfl (by decide) dL_1075 rfl ?_
  refine nx_aload_n rfl dL_1078 rfl ?_
  refine L_arg hX.1 hj hL (k := 1) (by decide) aL_1079 rfl rfl rfl ?_
  refine L_arg hX.1 hj hL (k := 2) (by decide) aL_1085 rfl rfl rfl ?_
  refine L_cm [.int (xs (6 * j + 1)), .int (xs (6 * j + 2))] cwl_M_since cvl_M_since (cM_since X.2.1 (M0 := LM Γ x D g f) (m := x + 19) e2) hI.fr rfl rfl (Nat.le_of_ble_eq_true rfl) (by decide) dL_1091 rfl ?_
  refine L_eq (t := 1521) dL_1094 (by decide) ?_
  exact nx_leaf rfl
theorem Lc_24 (hI : INV Γ x A B D g) (hj : 6 * j + 6 ≤ L) (hL : L ≤ 3072) : ∃ D' g', INV Γ x A B D' g' ∧ ∀ (X : nx_X) (Z : nx_Z) (nm : String), LX Γ X b L xs → nx_J Γ X (YL nm) Z (fun _ : Unit => .inl (1521, lls b x j, [], LM Γ x D' g' f)) (.inl (1099, lls b x j, [], LM Γ x D g f)) (some ()) := by
  obtain ⟨r, e1, e2⟩ := B_falls (u := 40000) (by decide) hI (xs (6 * j + 1))
  refine ⟨D, g, hI, fun X Z nm hX => ?_⟩
  refine nx_aload_n rfl dL_1099 rfl ?_
  refine L_arg hX.1 hj hL (k := 1) (by decide) aL_1100 rfl rfl rfl ?_
  refine L_cc [.int (xs (6 * j + 1))] cwl_C_falls cvl_C_falls (cC_falls X.2.1 (M0 := lwM Γ x g f) e1) hI rfl rfl (by decide) dL_1106 rfl ?_
  refine nx_aload_n rfl dL_1109 rfl ?_
  refine L_arg hX.1 hj hL (k := 1) (by decide) aL_1110 rfl rfl rfl ?_
  refine L_cm [.int (xs (6 * j + 1))] cwl_M_falls cvl_M_falls (cM_falls X.2.1 (M0 := LM Γ x D g f) (m := x + 19) e2) hI.fr rfl rfl (Nat.le_of_ble_eq_true rfl) (by decide) dL_1116 rfl ?_
  refine L_eq (t := 1521) dL_1119 (by decide) ?_
  exact nx_leaf rfl
theorem Lc_25 (hI : INV Γ x A B D g) (hj : 6 * j + 6 ≤ L) (hL : L ≤ 3072) : ∃ D' g', INV Γ x A B D' g' ∧ ∀ (X : nx_X) (Z : nx_Z) (nm : String), LX Γ X b L xs → nx_J Γ X (YL nm) Z (fun _ : Unit => .inl (1521, lls b x j, [], LM Γ x D' g' f)) (.inl (1124, lls b x j, [], LM Γ x D g f)) (some ()) := by
  obtain ⟨r, D', g', e1, e2, hI'⟩ := B_sures (u := 40000) (by decide) hI (xs (6 * j + 1))
  refine ⟨D', g', hI', fun X Z nm hX => ?_⟩
  refine nx_aload_n rfl dL_1124 rfl ?_
  refine L_arg hX.1 hj hL (k := 1) (by decide) aL_1125 rfl rfl rfl ?_
  refine L_cc [.int (xs (6 * j + 1))] cwl_C_sures cvl_C_sures (cC_sures X.2.1 (M0 := lwM Γ x g f) e1) hI rfl rfl (by decide) dL_1131 rfl ?_
  refine nx_aload_n rfl dL_1134 rfl ?_
  refine L_arg hX.1 hj hL (k := 1) (by decide) aL_1135 rfl rfl rfl ?_
  refine L_cm [.int (xs (6 * j + 1))] cwl_M_sures cvl_M_sures (cM_sures X.2.1 (M0 := LM Γ x D' g f) (m := x + 19) e2) hI'.fr rfl rfl (Nat.le_of_ble_eq_true rfl) (by decide) dL_1141 rfl ?_
  refine L_eq (t := 1521) dL_1144 (by decide) ?_
  exact nx_leaf rfl
end LAWC
