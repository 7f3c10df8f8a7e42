/-! ===== the law's loop ===== -/
theorem b63 : (iz 63).toBitVec.toNat = 2 ^ 6 - 1 := by decide +kernel
theorem and63 (a : Int32) : ∃ c : Nat, c < 64 ∧ a &&& iz 63 = iz (c : Int) := by
  refine ⟨a.toBitVec.toNat % 2 ^ 6, Nat.mod_lt _ (by decide), ?_⟩
  rw [iz_cast, pk_and _ 6 b63]
theorem toInt_L (L : Nat) : Int32.ofNat L = iz (L : Int) := (iz_cast L).symm
section LAWL
variable {Γ : nx_G} {b L x j A B : Nat} {xs : Nat → Int32} {D : nx_M} {g : mS} {f : Nat → Int64}
section
variable {X : nx_X} {nm : String} {Z : nx_Z} {α : Type} {C : α → nx_C} {pc q : Nat} {ls : List (Option Value)} {st : List Value} {M : nx_M} {o : Option α}
theorem L_pre {v : Int32} (hX : LX Γ X b L xs) (e : xs (6 * j) &&& iz 63 = v) (hj : 6 * j + 6 ≤ L) (hL : L ≤ 3072) (k : nx_J Γ X (YL nm) Z C (.inl (40, lls b x j, [.int v], M)) o) : nx_J Γ X (YL nm) Z C (.inl (33, lls b x j, [], M)) o := by
  subst e
  refine nx_aload_n rfl dL_33 rfl ?_
  refine nx_iload rfl dL_34 rfl ?_
  refine x_ald1 hX.1 (v := xs (6 * j)) (by
    unfold nx_rd
    rw [iz_clamp (by omega), if_neg]
    rintro (h | h)
    · exact iz_nn (by omega) h
    · omega) dL_36 rfl ?_
  refine nx_bipush (by decide +kernel) dL_37 rfl ?_
  refine nx_iand dL_39 rfl ?_
  exact k
theorem L_gt {y v : Int32} {off : Int} {t : Nat} (hv : y < v) (d : decode code pc = .ok (.if_icmp .gt off, 3)) (ht : (pc : Int) + off = (t : Int)) (k : nx_J Γ X (YL nm) Z C (.inl (t, ls, st, M)) o) : nx_J Γ X (YL nm) Z C (.inl (pc, ls, .int y :: .int v :: st, M)) o := by
  have h := nx_icmp_gt (C := C) (x := v) (y := y) (Y := YL nm) (q := pc + 3) (o1 := o) (o2 := none) d ht rfl k J_no
  rw [if_pos hv] at h
  exact h
theorem L_ngt {y v : Int32} {off : Int} {t : Nat} (hv : ¬ y < v) (d : decode code pc = .ok (.if_icmp .gt off, 3)) (ht : (pc : Int) + off = (t : Int)) (hq : pc + 3 = q) (k : nx_J Γ X (YL nm) Z C (.inl (q, ls, st, M)) o) : nx_J Γ X (YL nm) Z C (.inl (pc, ls, .int y :: .int v :: st, M)) o := by
  have h := nx_icmp_gt (C := C) (x := v) (y := y) (Y := YL nm) (o1 := none) (o2 := o) d ht hq J_no k
  rw [if_neg hv] at h
  exact h
theorem L_head (hX : LX Γ X b L xs) (k : nx_J Γ X (YL nm) Z C (.inl (30, lls b x j, [.int (iz ((L : Int) - 6)), .int (ii j)], M)) o) : nx_J Γ X (YL nm) Z C (.inl (23, lls b x j, [], M)) o := by
  refine nx_iload rfl dL_23 rfl ?_
  refine nx_aload_n rfl dL_25 rfl ?_
  refine x_len hX.1 dL_26 rfl ?_
  refine nx_bipush (by decide +kernel) dL_27 rfl ?_
  refine nx_isub dL_29 rfl ?_
  rw [toInt_L, iz_sub]
  exact k
theorem L_foot (k : nx_J Γ X (YL nm) Z C (.inl (23, lls b x (j + 1), [], M)) o) : nx_J Γ X (YL nm) Z C (.inl (1521, lls b x j, [], M)) o := by
  have e : ii j + iz 6 = ii (j + 1) := by
    show iz _ + iz _ = iz _
    rw [iz_add]
    exact congrArg iz (by omega)
  refine nx_iinc (lls b x (j + 1)) dL_1521 rfl rfl (Nat.le_of_ble_eq_true rfl) rfl ?_ ?_
  · rw [e]
    rfl
  · exact nx_goto (q := 23) dL_1524 (by decide) k
end
/-- what a round of the loop gives -/
def Lr9 (Γ : nx_G) (b L x j A B : Nat) (xs : Nat → Int32) (D : nx_M) (g : mS) (f : Nat → Int64) (t : Nat) : Prop := ∃ (A' B' : Nat) (D' : nx_M) (g' : mS) (f' : Nat → Int64), A' ≤ A + 1 ∧ B' ≤ B + 6 ∧ INV Γ x A' B' D' g' ∧ ∀ (X : nx_X) (Z : nx_Z) (nm : String), LX Γ X b L xs → nx_J Γ X (YL nm) Z (fun _ : Unit => .inl (1521, lls b x j, [], LM Γ x D' g' f')) (.inl (t, lls b x j, [], LM Γ x D g f)) (some ())
theorem L_up5 {c t : Nat} {off : Int} (h : Lr9 Γ b L x j A B xs D g f t) (e : xs (6 * j) &&& iz 63 = iz (c : Int)) (hc : c < 38) (ho : swO[c]? = some off) (ht : (40 : Int) + off = (t : Int)) (hj : 6 * j + 6 ≤ L) (hL : L ≤ 3072) : Lr9 Γ b L x j A B xs D g f 33 := by
  obtain ⟨A', B', D', g', f', h1, h2, h3, h4⟩ := h
  exact ⟨A', B', D', g', f', h1, h2, h3, fun X Z nm hX => L_pre hX e hj hL (L_in dL_40 hc ho ht (h4 X Z nm hX))⟩
theorem L_up {c t : Nat} {off : Int} (h : ∃ D' g', INV Γ x A B D' g' ∧ ∀ (X : nx_X) (Z : nx_Z) (nm : String), LX Γ X b L xs → nx_J Γ X (YL nm) Z (fun _ : Unit => .inl (1521, lls b x j, [], LM Γ x D' g' f)) (.inl (t, lls b x j, [], LM Γ x D g f)) (some ())) (e : xs (6 * j) &&& iz 63 = iz (c : Int)) (hc : c < 38) (ho : swO[c]? = some off) (ht : (40 : Int) + off = (t : Int)) (hj : 6 * j + 6 ≤ L) (hL : L ≤ 3072) : Lr9 Γ b L x j A B xs D g f 33 := by
  obtain ⟨D', g', h3, h4⟩ := h
  exact L_up5 ⟨A, B, D', g', f, by omega, by omega, h3, h4⟩ e hc ho ht hj hL
theorem L_step (hI : INV Γ x A B D g) (hj : 6 * j + 6 ≤ L) (hL : L ≤ 3072) : Lr9 Γ b L x j A B xs D g f 33 := by
  obtain ⟨c, hc, e⟩ := and63 (xs (6 * j))
  by_cases h38 : c < 38
  · match c, h38 with
    | 0, h => exact L_up (t := 208) (off := 168) (Lc_0 hI hj hL) e (by decide) (by decide +kernel) (by decide) hj hL
    | 1, h => exact L_up (t := 281) (off := 241) (Lc_1 hI hj hL) e (by decide) (by decide +kernel) (by decide) hj hL
    | 2, h => exact L_up (t := 306) (off := 266) (Lc_2 hI hj hL) e (by decide) (by decide +kernel) (by decide) hj hL
    | 3, h => exact L_up (t := 331) (off := 291) (Lc_3 hI hj hL) e (by decide) (by decide +kernel) (by decide) hj hL
    | 4, h => exact L_up (t := 356) (off := 316) (Lc_4 hI hj hL) e (by decide) (by decide +kernel) (by decide) hj hL
    | 5, h => exact L_up5 (t := 381) (off := 341) (Lc_5 hI hj hL) e (by decide) (by decide +kernel) (by decide) hj hL
    | 6, h => exact L_up (t := 449) (off := 409) (Lc_6 hI hj hL) e (by decide) (by decide +kernel) (by decide) hj hL
    | 7, h => exact L_up (t := 486) (off := 446) (Lc_7 hI hj hL) e (by decide) (by decide +kernel) (by decide) hj hL
    | 8, h => exact L_up (t := 535) (off := 495) (Lc_8 hI hj hL) e (by decide) (by decide +kernel) (by decide) hj hL
    | 9, h => exact L_up (t := 560) (off := 520) (Lc_9 hI hj hL) e (by decide) (by decide +kernel) (by decide) hj hL
    | 10, h => exact L_up (t := 609) (off := 569) (Lc_10 hI hj hL) e (by decide) (by decide +kernel) (by decide) hj hL
    | 11, h => exact L_up (t := 646) (off := 606) (Lc_11 hI hj hL) e (by decide) (by decide +kernel) (by decide) hj hL
    | 12, h => exact L_up (t := 695) (off := 655) (Lc_12 hI hj hL) e (by decide) (by decide +kernel) (by decide) hj hL
    | 13, h => exact L_up (t := 732) (off := 692) (Lc_13 hI hj hL) e (by decide) (by decide +kernel) (by decide) hj hL
    | 14, h => exact L_up (t := 781) (off := 741) (Lc_14 hI hj hL) e (by decide) (by decide +kernel) (by decide) hj hL
    | 15, h => exact L_up (t := 806) (off := 766) (Lc_15 hI hj hL) e (by decide) (by decide +kernel) (by decide) hj hL
    | 16, h => exact L_up (t := 831) (off := 791) (Lc_16 hI hj hL) e (by decide) (by decide +kernel) (by decide) hj hL
    | 17, h => exact L_up (t := 856) (off := 816) (Lc_17 hI hj hL) e (by decide) (by decide +kernel) (by decide) hj hL
    | 18, h => exact L_up (t := 869) (off := 829) (Lc_18 hI hj hL) e (by decide) (by decide +kernel) (by decide) hj hL
    | 19, h => exact L_up (t := 938) (off := 898) (Lc_19 hI hj hL) e (by decide) (by decide +kernel) (by decide) hj hL
    | 20, h => exact L_up (t := 963) (off := 923) (Lc_20 hI hj hL) e (by decide) (by decide +kernel) (by decide) hj hL
    | 21, h => exact L_up (t := 976) (off := 936) (Lc_21 hI hj hL) e (by decide) (by decide +kernel) (by decide) hj hL
    | 22, h => exact L_up (t := 1013) (off := 973) (Lc_22 hI hj hL) e (by decide) (by decide +kernel) (by decide) hj hL
    | 23, h => exact L_up (t := 1062) (off := 1022) (Lc_23 hI hj hL) e (by decide) (by decide +kernel) (by decide) hj hL
    | 24, h => exact L_up (t := 1099) (off := 1059) (Lc_24 hI hj hL) e (by decide) (by decide +kernel) (by decide) hj hL
    | 25, h => exact L_up (t := 1124) (off := 1084) (Lc_25 hI hj hL) e (by decide) (by decide +kernel) (by decide) hj hL
    | 26, h => exact L_up (t := 1149) (off := 1109) (Lc_26 hI hj hL) e (by decide) (by decide +kernel) (by decide) hj hL
    | 27, h => exact L_up (t := 1174) (off := 1134) (Lc_27 hI hj hL) e (by decide) (by decide +kernel) (by decide) hj hL
    | 28, h => exact L_up (t := 1211) (off := 1171) (Lc_28 hI hj hL) e (by decide) (by decide +kernel) (by decide) hj hL
    | 29, h => exact L_up (t := 1260) (off := 1220) (Lc_29 hI hj hL) e (by decide) (by decide +kernel) (by decide) hj hL
    | 30, h => exact L_up (t := 1297) (off := 1257) (Lc_30 hI hj hL) e (by decide) (by decide +kernel) (by decide) hj hL
    | 31, h => exact L_up (t := 1322) (off := 1282) (Lc_31 hI hj hL) e (by decide) (by decide +kernel) (by decide) hj hL
    | 32, h => exact L_up (t := 1371) (off := 1331) (Lc_32 hI hj hL) e (by decide) (by decide +kernel) (by decide) hj hL
    | 33, h => exact L_up (t := 1408) (off := 1368) (Lc_33 hI hj hL) e (by decide) (by decide +kernel) (by decide) hj hL
    | 34, h => exact L_up (t := 1445) (off := 1405) (Lc_34 hI hj hL) e (by decide) (by decide +kernel) (by decide) hj hL
    | 35, h => exact L_up (t := 1470) (off := 1430) (Lc_35 hI hj hL) e (by decide) (by decide +kernel) (by decide) hj hL
    | 36, h => exact L_up (t := 1483) (off := 1443) (Lc_36 hI hj hL) e (by decide) (by decide +kernel) (by decide) hj hL
    | 37, h => exact L_up (t := 1496) (off := 1456) (Lc_37 hI hj hL) e (by decide) (by decide +kernel) (by decide) hj hL
    | c + 38, h => exact absurd h (by omega)
  · refine ⟨A, B, D, g, f, by omega, by omega, hI, fun X Z nm hX => L_pre hX e hj hL (L_out dL_40 ?_ (t := 1521) (by decide) (nx_leaf rfl))⟩
    rw [iz_toInt (by omega) (by omega)]
    omega
theorem one_b : iz 1 = bz true := by decide +kernel
theorem one_c : bz true = 1 := by decide +kernel
theorem L_loop (hL : L ≤ 3072) : ∀ (n j A B : Nat) (D : nx_M) (g : mS) (f : Nat → Int64), INV Γ x A B D g → L < 6 * (j + n) + 6 → j + n ≤ 600 → ∃ Me : nx_M, Me.2.1 ≤ A + n + 114 ∧ Me.2.2 ≤ B + 6 * n + 27559 ∧
    ∀ (X : nx_X) (Z : nx_Z) (nm : String), LX Γ X b L xs → nx_J Γ X (YL nm) Z (fun _ : Unit => .inr (some (.int 1), Me)) (.inl (23, lls b x j, [], LM Γ x D g f)) (some ()) := by
  intro n
  induction n with
  | zero =>
    intro j A B D g f hI h1 h2
    obtain ⟨r1, r2⟩ := hI.room
    refine ⟨LM Γ x D g f, by show D.2.1 ≤ _; omega, by show D.2.2 ≤ _; omega, fun X Z nm hX => L_head hX ?_⟩
    refine L_gt (t := 1527) (by rw [iz_lt (by omega) (by omega) (by omega) (by omega)]; omega) dL_30 (by decide) ?_
    refine nx_iconst dL_1527 rfl ?_
    rw [one_b]
    exact nx_zret dL_1528 rfl (by rw [one_c])
  | succ n ih =>
    intro j A B D g f hI h1 h2
    by_cases hj : 6 * j + 6 ≤ L
    · obtain ⟨A', B', D', g', f', a1, a2, hI', js⟩ := L_step (b := b) (L := L) (xs := xs) (f := f) hI hj hL
      obtain ⟨Me, m1, m2, jm⟩ := ih (j + 1) A' B' D' g' f' hI' (by omega) (by omega)
      refine ⟨Me, by omega, by omega, fun X Z nm hX => L_head hX ?_⟩
      refine L_ngt (t := 1527) (by rw [iz_lt (by omega) (by omega) (by omega) (by omega)]; omega) dL_30 (by decide) rfl ?_
      exact nx_seq (k := fun _ => some ()) (js X Z nm hX) (fun _ => L_foot (jm X Z nm hX))
    · obtain ⟨r1, r2⟩ := hI.room
      refine ⟨LM Γ x D g f, by show D.2.1 ≤ _; omega, by show D.2.2 ≤ _; omega, fun X Z nm hX => L_head hX ?_⟩
      refine L_gt (t := 1527) (by rw [iz_lt (by omega) (by omega) (by omega) (by omega)]; omega) dL_30 (by decide) ?_
      refine nx_iconst dL_1527 rfl ?_
      rw [one_b]
      exact nx_zret dL_1528 rfl (by rw [one_c])
end LAWL
