theorem dX7_within_0 : decode cX7_within 0 = .ok (.iload_n 0, 1) := by decide +kernel
theorem dX7_within_1 : decode cX7_within 1 = .ok (.ifCond .lt 12, 3) := by decide +kernel
theorem dX7_within_4 : decode cX7_within 4 = .ok (.iload_n 0, 1) := by decide +kernel
theorem dX7_within_5 : decode cX7_within 5 = .ok (.iload_n 1, 1) := by decide +kernel
theorem dX7_within_6 : decode cX7_within 6 = .ok (.if_icmp .ge 7, 3) := by decide +kernel
theorem dX7_within_9 : decode cX7_within 9 = .ok (.iconst 1, 1) := by decide +kernel
theorem dX7_within_10 : decode cX7_within 10 = .ok (.goto 4, 3) := by decide +kernel
theorem dX7_within_13 : decode cX7_within 13 = .ok (.iconst 0, 1) := by decide +kernel
theorem dX7_within_14 : decode cX7_within 14 = .ok (.ireturn, 1) := by decide +kernel
def fL_within (u : Nat) (a1 : Int32) (a2 : Int32) : Option (Bool) :=
  if a1 < iz 0 then
    some false
  else
    if a2 ≤ a1 then
      some false
    else
      some true
set_option maxRecDepth 4000 in
theorem jL_within {Γ : nx_G} {M : nx_M} (u : Nat) (a1 : Int32) (a2 : Int32)   (X : nx_X) (Z : nx_Z) : nx_J Γ X (RX7, cX7_within, 2, (some .boolean), "within", 1) Z (fun r0 : Bool => .inr (some (.int (bz r0)), M)) (.inl (0, [some (.int a1), some (.int a2)], [], M)) (fL_within u a1 a2) := by
  unfold fL_within
  refine nx_iload_n rfl dX7_within_0 rfl ?_
  refine nx_if_lt (t := 13) dX7_within_1 (by decide) rfl ?_ ?_
  · refine nx_iconst dX7_within_13 rfl ?_
    exact nx_zret (b := false) dX7_within_14 rfl rfl
  · refine nx_iload_n rfl dX7_within_4 rfl ?_
    refine nx_iload_n rfl dX7_within_5 rfl ?_
    refine nx_icmp_ge (t := 13) dX7_within_6 (by decide) rfl ?_ ?_
    · refine nx_iconst dX7_within_13 rfl ?_
      exact nx_zret (b := false) dX7_within_14 rfl rfl
    · refine nx_iconst dX7_within_9 rfl ?_
      refine nx_goto (q := 14) dX7_within_10 (by decide) ?_
      exact nx_zret (b := true) dX7_within_14 rfl rfl
theorem cL_within (l : Launch) {Γ : nx_G} {M : nx_M} {u : Nat} {a1 : Int32} {a2 : Int32} {r : Bool}  (h : fL_within u a1 a2 = some r) : nx_Ct l Γ 1 yX7_within cX7_within 2 (some .boolean) [.int a1, .int a2] M (some (.int (bz r)), M) :=
  nx_ct (out := fun r0 : Bool => (some (.int (bz r0)), M)) [some (.int a1), some (.int a2)] pn_RX7 h (Nat.le_of_ble_eq_true rfl) rfl (fun X Z _ => jL_within  u a1 a2 X Z)
theorem dJ6_bitCount_0f7a4_0 : decode cJ6_bitCount_0f7a4 0 = .ok (.iload_n 0, 1) := by decide +kernel
theorem dJ6_bitCount_0f7a4_1 : decode cJ6_bitCount_0f7a4 1 = .ok (.iload_n 0, 1) := by decide +kernel
theorem dJ6_bitCount_0f7a4_2 : decode cJ6_bitCount_0f7a4 2 = .ok (.iconst 1, 1) := by decide +kernel
theorem dJ6_bitCount_0f7a4_3 : decode cJ6_bitCount_0f7a4 3 = .ok (.iushr, 1) := by decide +kernel
theorem dJ6_bitCount_0f7a4_4 : decode cJ6_bitCount_0f7a4 4 = .ok (.ldc_w 265, 3) := by decide +kernel
theorem dJ6_bitCount_0f7a4_7 : decode cJ6_bitCount_0f7a4 7 = .ok (.iand, 1) := by decide +kernel
theorem dJ6_bitCount_0f7a4_8 : decode cJ6_bitCount_0f7a4 8 = .ok (.isub, 1) := by decide +kernel
theorem dJ6_bitCount_0f7a4_9 : decode cJ6_bitCount_0f7a4 9 = .ok (.istore_n 0, 1) := by decide +kernel
theorem dJ6_bitCount_0f7a4_10 : decode cJ6_bitCount_0f7a4 10 = .ok (.iload_n 0, 1) := by decide +kernel
theorem dJ6_bitCount_0f7a4_11 : decode cJ6_bitCount_0f7a4 11 = .ok (.ldc_w 266, 3) := by decide +kernel
theorem dJ6_bitCount_0f7a4_14 : decode cJ6_bitCount_0f7a4 14 = .ok (.iand, 1) := by decide +kernel
theorem dJ6_bitCount_0f7a4_15 : decode cJ6_bitCount_0f7a4 15 = .ok (.iload_n 0, 1) := by decide +kernel
theorem dJ6_bitCount_0f7a4_16 : decode cJ6_bitCount_0f7a4 16 = .ok (.iconst 2, 1) := by decide +kernel
theorem dJ6_bitCount_0f7a4_17 : decode cJ6_bitCount_0f7a4 17 = .ok (.iushr, 1) := by decide +kernel
theorem dJ6_bitCount_0f7a4_18 : decode cJ6_bitCount_0f7a4 18 = .ok (.ldc_w 266, 3) := by decide +kernel
theorem dJ6_bitCount_0f7a4_21 : decode cJ6_bitCount_0f7a4 21 = .ok (.iand, 1) := by decide +kernel
theorem dJ6_bitCount_0f7a4_22 : decode cJ6_bitCount_0f7a4 22 = .ok (.iadd, 1) := by decide +kernel
theorem dJ6_bitCount_0f7a4_23 : decode cJ6_bitCount_0f7a4 23 = .ok (.istore_n 0, 1) := by decide +kernel
theorem dJ6_bitCount_0f7a4_24 : decode cJ6_bitCount_0f7a4 24 = .ok (.iload_n 0, 1) := by decide +kernel
theorem dJ6_bitCount_0f7a4_25 : decode cJ6_bitCount_0f7a4 25 = .ok (.iload_n 0, 1) := by decide +kernel
theorem dJ6_bitCount_0f7a4_26 : decode cJ6_bitCount_0f7a4 26 = .ok (.iconst 4, 1) := by decide +kernel
theorem dJ6_bitCount_0f7a4_27 : decode cJ6_bitCount_0f7a4 27 = .ok (.iushr, 1) := by decide +kernel
theorem dJ6_bitCount_0f7a4_28 : decode cJ6_bitCount_0f7a4 28 = .ok (.iadd, 1) := by decide +kernel
theorem dJ6_bitCount_0f7a4_29 : decode cJ6_bitCount_0f7a4 29 = .ok (.ldc_w 267, 3) := by decide +kernel
theorem dJ6_bitCount_0f7a4_32 : decode cJ6_bitCount_0f7a4 32 = .ok (.iand, 1) := by decide +kernel
theorem dJ6_bitCount_0f7a4_33 : decode cJ6_bitCount_0f7a4 33 = .ok (.istore_n 0, 1) := by decide +kernel
theorem dJ6_bitCount_0f7a4_34 : decode cJ6_bitCount_0f7a4 34 = .ok (.iload_n 0, 1) := by decide +kernel
theorem dJ6_bitCount_0f7a4_35 : decode cJ6_bitCount_0f7a4 35 = .ok (.iload_n 0, 1) := by decide +kernel
theorem dJ6_bitCount_0f7a4_36 : decode cJ6_bitCount_0f7a4 36 = .ok (.bipush 8, 2) := by decide +kernel
theorem dJ6_bitCount_0f7a4_38 : decode cJ6_bitCount_0f7a4 38 = .ok (.iushr, 1) := by decide +kernel
theorem dJ6_bitCount_0f7a4_39 : decode cJ6_bitCount_0f7a4 39 = .ok (.iadd, 1) := by decide +kernel
theorem dJ6_bitCount_0f7a4_40 : decode cJ6_bitCount_0f7a4 40 = .ok (.istore_n 0, 1) := by decide +kernel
theorem dJ6_bitCount_0f7a4_41 : decode cJ6_bitCount_0f7a4 41 = .ok (.iload_n 0, 1) := by decide +kernel
theorem dJ6_bitCount_0f7a4_42 : decode cJ6_bitCount_0f7a4 42 = .ok (.iload_n 0, 1) := by decide +kernel
theorem dJ6_bitCount_0f7a4_43 : decode cJ6_bitCount_0f7a4 43 = .ok (.bipush 16, 2) := by decide +kernel
theorem dJ6_bitCount_0f7a4_45 : decode cJ6_bitCount_0f7a4 45 = .ok (.iushr, 1) := by decide +kernel
theorem dJ6_bitCount_0f7a4_46 : decode cJ6_bitCount_0f7a4 46 = .ok (.iadd, 1) := by decide +kernel
theorem dJ6_bitCount_0f7a4_47 : decode cJ6_bitCount_0f7a4 47 = .ok (.istore_n 0, 1) := by decide +kernel
theorem dJ6_bitCount_0f7a4_48 : decode cJ6_bitCount_0f7a4 48 = .ok (.iload_n 0, 1) := by decide +kernel
theorem dJ6_bitCount_0f7a4_49 : decode cJ6_bitCount_0f7a4 49 = .ok (.bipush 63, 2) := by decide +kernel
theorem dJ6_bitCount_0f7a4_51 : decode cJ6_bitCount_0f7a4 51 = .ok (.iand, 1) := by decide +kernel
theorem dJ6_bitCount_0f7a4_52 : decode cJ6_bitCount_0f7a4 52 = .ok (.ireturn, 1) := by decide +kernel
def fJ_bitCount_0f7a4 (u : Nat) (a1 : Int32) : Option (Int32) :=
  some ((((((((a1 - ((a1.toUInt32 >>> ((iz 1).toUInt32 &&& Int32.toUInt32 31)).toInt32 &&& (1431655765 : Int32))) &&& (858993459 : Int32)) + (((a1 - ((a1.toUInt32 >>> ((iz 1).toUInt32 &&& Int32.toUInt32 31)).toInt32 &&& (1431655765 : Int32))).toUInt32 >>> ((iz 2).toUInt32 &&& Int32.toUInt32 31)).toInt32 &&& (858993459 : Int32))) + ((((a1 - ((a1.toUInt32 >>> ((iz 1).toUInt32 &&& Int32.toUInt32 31)).toInt32 &&& (1431655765 : Int32))) &&& (858993459 : Int32)) + (((a1 - ((a1.toUInt32 >>> ((iz 1).toUInt32 &&& Int32.toUInt32 31)).toInt32 &&& (1431655765 : Int32))).toUInt32 >>> ((iz 2).toUInt32 &&& Int32.toUInt32 31)).toInt32 &&& (858993459 : Int32))).toUInt32 >>> ((iz 4).toUInt32 &&& Int32.toUInt32 31)).toInt32) &&& (252645135 : Int32)) + ((((((a1 - ((a1.toUInt32 >>> ((iz 1).toUInt32 &&& Int32.toUInt32 31)).toInt32 &&& (1431655765 : Int32))) &&& (858993459 : Int32)) + (((a1 - ((a1.toUInt32 >>> ((iz 1).toUInt32 &&& Int32.toUInt32 31)).toInt32 &&& (1431655765 : Int32))).toUInt32 >>> ((iz 2).toUInt32 &&& Int32.toUInt32 31)).toInt32 &&& (858993459 : Int32))) + ((((a1 - ((a1.toUInt32 >>> ((iz 1).toUInt32 &&& Int32.toUInt32 31)).toInt32 &&& (1431655765 : Int32))) &&& (858993459 : Int32)) + (((a1 - ((a1.toUInt32 >>> ((iz 1).toUInt32 &&& Int32.toUInt32 31)).toInt32 &&& (1431655765 : Int32))).toUInt32 >>> ((iz 2).toUInt32 &&& Int32.toUInt32 31)).toInt32 &&& (858993459 : Int32))).toUInt32 >>> ((iz 4).toUInt32 &&& Int32.toUInt32 31)).toInt32) &&& (252645135 : Int32)).toUInt32 >>> ((iz 8).toUInt32 &&& Int32.toUInt32 31)).toInt32) + (((((((a1 - ((a1.toUInt32 >>> ((iz 1).toUInt32 &&& Int32.toUInt32 31)).toInt32 &&& (1431655765 : Int32))) &&& (858993459 : Int32)) + (((a1 - ((a1.toUInt32 >>> ((iz 1).toUInt32 &&& Int32.toUInt32 31)).toInt32 &&& (1431655765 : Int32))).toUInt32 >>> ((iz 2).toUInt32 &&& Int32.toUInt32 31)).toInt32 &&& (858993459 : Int32))) + ((((a1 - ((a1.toUInt32 >>> ((iz 1).toUInt32 &&& Int32.toUInt32 31)).toInt32 &&& (1431655765 : Int32))) &&& (858993459 : Int32)) + (((a1 - ((a1.toUInt32 >>> ((iz 1).toUInt32 &&& Int32.toUInt32 31)).toInt32 &&& (1431655765 : Int32))).toUInt32 >>> ((iz 2).toUInt32 &&& Int32.toUInt32 31)).toInt32 &&& (858993459 : Int32))).toUInt32 >>> ((iz 4).toUInt32 &&& Int32.toUInt32 31)).toInt32) &&& (252645135 : Int32)) + ((((((a1 - ((a1.toUInt32 >>> ((iz 1).toUInt32 &&& Int32.toUInt32 31)).toInt32 &&& (1431655765 : Int32))) &&& (858993459 : Int32)) + (((a1 - ((a1.toUInt32 >>> ((iz 1).toUInt32 &&& Int32.toUInt32 31)).toInt32 &&& (1431655765 : Int32))).toUInt32 >>> ((iz 2).toUInt32 &&& Int32.toUInt32 31)).toInt32 &&& (858993459 : Int32))) + ((((a1 - ((a1.toUInt32 >>> ((iz 1).toUInt32 &&& Int32.toUInt32 31)).toInt32 &&& (1431655765 : Int32))) &&& (858993459 : Int32)) + (((a1 - ((a1.toUInt32 >>> ((iz 1).toUInt32 &&& Int32.toUInt32 31)).toInt32 &&& (1431655765 : Int32))).toUInt32 >>> ((iz 2).toUInt32 &&& Int32.toUInt32 31)).toInt32 &&& (858993459 : Int32))).toUInt32 >>> ((iz 4).toUInt32 &&& Int32.toUInt32 31)).toInt32) &&& (252645135 : Int32)).toUInt32 >>> ((iz 8).toUInt32 &&& Int32.toUInt32 31)).toInt32).toUInt32 >>> ((iz 16).toUInt32 &&& Int32.toUInt32 31)).toInt32) &&& (iz 63))
set_option maxRecDepth 4000 in
theorem jJ_bitCount_0f7a4 {Γ : nx_G} {M : nx_M} (u : Nat) (a1 : Int32)   (X : nx_X) (Z : nx_Z) : nx_J Γ X (RJ6, cJ6_bitCount_0f7a4, 1, (some .int), "bitCount", 1) Z (fun r0 : Int32 => .inr (some (.int r0), M)) (.inl (0, [some (.int a1)], [], M)) (fJ_bitCount_0f7a4 u a1) := by
  unfold fJ_bitCount_0f7a4
  refine nx_iload_n rfl dJ6_bitCount_0f7a4_0 rfl ?_
  refine nx_iload_n rfl dJ6_bitCount_0f7a4_1 rfl ?_
  refine nx_iconst dJ6_bitCount_0f7a4_2 rfl ?_
  refine nx_iushr dJ6_bitCount_0f7a4_3 rfl ?_
  refine nx_ldcw wd_726 dJ6_bitCount_0f7a4_4 rfl ?_
  refine nx_iand dJ6_bitCount_0f7a4_7 rfl ?_
  refine nx_isub dJ6_bitCount_0f7a4_8 rfl ?_
  refine nx_istore_n [some (.int (a1 - ((a1.toUInt32 >>> ((iz 1).toUInt32 &&& Int32.toUInt32 31)).toInt32 &&& (1431655765 : Int32))))] dJ6_bitCount_0f7a4_9 rfl (Nat.le_of_ble_eq_true rfl) rfl rfl ?_
  refine nx_iload_n rfl dJ6_bitCount_0f7a4_10 rfl ?_
  refine nx_ldcw wd_727 dJ6_bitCount_0f7a4_11 rfl ?_
  refine nx_iand dJ6_bitCount_0f7a4_14 rfl ?_
  refine nx_iload_n rfl dJ6_bitCount_0f7a4_15 rfl ?_
  refine nx_iconst dJ6_bitCount_0f7a4_16 rfl ?_
  refine nx_iushr dJ6_bitCount_0f7a4_17 rfl ?_
  refine nx_ldcw wd_727 dJ6_bitCount_0f7a4_18 rfl ?_
  refine nx_iand dJ6_bitCount_0f7a4_21 rfl ?_
  refine nx_iadd dJ6_bitCount_0f7a4_22 rfl ?_
  refine nx_istore_n [some (.int (((a1 - ((a1.toUInt32 >>> ((iz 1).toUInt32 &&& Int32.toUInt32 31)).toInt32 &&& (1431655765 : Int32))) &&& (858993459 : Int32)) + (((a1 - ((a1.toUInt32 >>> ((iz 1).toUInt32 &&& Int32.toUInt32 31)).toInt32 &&& (1431655765 : Int32))).toUInt32 >>> ((iz 2).toUInt32 &&& Int32.toUInt32 31)).toInt32 &&& (858993459 : Int32))))] dJ6_bitCount_0f7a4_23 rfl (Nat.le_of_ble_eq_true rfl) rfl rfl ?_
  refine nx_iload_n rfl dJ6_bitCount_0f7a4_24 rfl ?_
  refine nx_iload_n rfl dJ6_bitCount_0f7a4_25 rfl ?_
  refine nx_iconst dJ6_bitCount_0f7a4_26 rfl ?_
  refine nx_iushr dJ6_bitCount_0f7a4_27 rfl ?_
  refine nx_iadd dJ6_bitCount_0f7a4_28 rfl ?_
  refine nx_ldcw wd_728 dJ6_bitCount_0f7a4_29 rfl ?_
  refine nx_iand dJ6_bitCount_0f7a4_32 rfl ?_
  refine nx_istore_n [some (.int (((((a1 - ((a1.toUInt32 >>> ((iz 1).toUInt32 &&& Int32.toUInt32 31)).toInt32 &&& (1431655765 : Int32))) &&& (858993459 : Int32)) + (((a1 - ((a1.toUInt32 >>> ((iz 1).toUInt32 &&& Int32.toUInt32 31)).toInt32 &&& (1431655765 : Int32))).toUInt32 >>> ((iz 2).toUInt32 &&& Int32.toUInt32 31)).toInt32 &&& (858993459 : Int32))) + ((((a1 - ((a1.toUInt32 >>> ((iz 1).toUInt32 &&& Int32.toUInt32 31)).toInt32 &&& (1431655765 : Int32))) &&& (858993459 : Int32)) + (((a1 - ((a1.toUInt32 >>> ((iz 1).toUInt32 &&& Int32.toUInt32 31)).toInt32 &&& (1431655765 : Int32))).toUInt32 >>> ((iz 2).toUInt32 &&& Int32.toUInt32 31)).toInt32 &&& (858993459 : Int32))).toUInt32 >>> ((iz 4).toUInt32 &&& Int32.toUInt32 31)).toInt32) &&& (252645135 : Int32)))] dJ6_bitCount_0f7a4_33 rfl (Nat.le_of_ble_eq_true rfl) rfl rfl ?_
  refine nx_iload_n rfl dJ6_bitCount_0f7a4_34 rfl ?_
  refine nx_iload_n rfl dJ6_bitCount_0f7a4_35 rfl ?_
  refine nx_bipush (by decide +kernel) dJ6_bitCount_0f7a4_36 rfl ?_
  refine nx_iushr dJ6_bitCount_0f7a4_38 rfl ?_
  refine nx_iadd dJ6_bitCount_0f7a4_39 rfl ?_
  refine nx_istore_n [some (.int ((((((a1 - ((a1.toUInt32 >>> ((iz 1).toUInt32 &&& Int32.toUInt32 31)).toInt32 &&& (1431655765 : Int32))) &&& (858993459 : Int32)) + (((a1 - ((a1.toUInt32 >>> ((iz 1).toUInt32 &&& Int32.toUInt32 31)).toInt32 &&& (1431655765 : Int32))).toUInt32 >>> ((iz 2).toUInt32 &&& Int32.toUInt32 31)).toInt32 &&& (858993459 : Int32))) + ((((a1 - ((a1.toUInt32 >>> ((iz 1).toUInt32 &&& Int32.toUInt32 31)).toInt32 &&& (1431655765 : Int32))) &&& (858993459 : Int32)) + (((a1 - ((a1.toUInt32 >>> ((iz 1).toUInt32 &&& Int32.toUInt32 31)).toInt32 &&& (1431655765 : Int32))).toUInt32 >>> ((iz 2).toUInt32 &&& Int32.toUInt32 31)).toInt32 &&& (858993459 : Int32))).toUInt32 >>> ((iz 4).toUInt32 &&& Int32.toUInt32 31)).toInt32) &&& (252645135 : Int32)) + ((((((a1 - ((a1.toUInt32 >>> ((iz 1).toUInt32 &&& Int32.toUInt32 31)).toInt32 &&& (1431655765 : Int32))) &&& (858993459 : Int32)) + (((a1 - ((a1.toUInt32 >>> ((iz 1).toUInt32 &&& Int32.toUInt32 31)).toInt32 &&& (1431655765 : Int32))).toUInt32 >>> ((iz 2).toUInt32 &&& Int32.toUInt32 31)).toInt32 &&& (858993459 : Int32))) + ((((a1 - ((a1.toUInt32 >>> ((iz 1).toUInt32 &&& Int32.toUInt32 31)).toInt32 &&& (1431655765 : Int32))) &&& (858993459 : Int32)) + (((a1 - ((a1.toUInt32 >>> ((iz 1).toUInt32 &&& Int32.toUInt32 31)).toInt32 &&& (1431655765 : Int32))).toUInt32 >>> ((iz 2).toUInt32 &&& Int32.toUInt32 31)).toInt32 &&& (858993459 : Int32))).toUInt32 >>> ((iz 4).toUInt32 &&& Int32.toUInt32 31)).toInt32) &&& (252645135 : Int32)).toUInt32 >>> ((iz 8).toUInt32 &&& Int32.toUInt32 31)).toInt32))] dJ6_bitCount_0f7a4_40 rfl (Nat.le_of_ble_eq_true rfl) rfl rfl ?_
  refine nx_iload_n rfl dJ6_bitCount_0f7a4_41 rfl ?_
  refine nx_iload_n rfl dJ6_bitCount_0f7a4_42 rfl ?_
  refine nx_bipush (by decide +kernel) dJ6_bitCount_0f7a4_43 rfl ?_
  refine nx_iushr dJ6_bitCount_0f7a4_45 rfl ?_
  refine nx_iadd dJ6_bitCount_0f7a4_46 rfl ?_
  refine nx_istore_n [some (.int (((((((a1 - ((a1.toUInt32 >>> ((iz 1).toUInt32 &&& Int32.toUInt32 31)).toInt32 &&& (1431655765 : Int32))) &&& (858993459 : Int32)) + (((a1 - ((a1.toUInt32 >>> ((iz 1).toUInt32 &&& Int32.toUInt32 31)).toInt32 &&& (1431655765 : Int32))).toUInt32 >>> ((iz 2).toUInt32 &&& Int32.toUInt32 31)).toInt32 &&& (858993459 : Int32))) + ((((a1 - ((a1.toUInt32 >>> ((iz 1).toUInt32 &&& Int32.toUInt32 31)).toInt32 &&& (1431655765 : Int32))) &&& (858993459 : Int32)) + (((a1 - ((a1.toUInt32 >>> ((iz 1).toUInt32 &&& Int32.toUInt32 31)).toInt32 &&& (1431655765 : Int32))).toUInt32 >>> ((iz 2).toUInt32 &&& Int32.toUInt32 31)).toInt32 &&& (858993459 : Int32))).toUInt32 >>> ((iz 4).toUInt32 &&& Int32.toUInt32 31)).toInt32) &&& (252645135 : Int32)) + ((((((a1 - ((a1.toUInt32 >>> ((iz 1).toUInt32 &&& Int32.toUInt32 31)).toInt32 &&& (1431655765 : Int32))) &&& (858993459 : Int32)) + (((a1 - ((a1.toUInt32 >>> ((iz 1).toUInt32 &&& Int32.toUInt32 31)).toInt32 &&& (1431655765 : Int32))).toUInt32 >>> ((iz 2).toUInt32 &&& Int32.toUInt32 31)).toInt32 &&& (858993459 : Int32))) + ((((a1 - ((a1.toUInt32 >>> ((iz 1).toUInt32 &&& Int32.toUInt32 31)).toInt32 &&& (1431655765 : Int32))) &&& (858993459 : Int32)) + (((a1 - ((a1.toUInt32 >>> ((iz 1).toUInt32 &&& Int32.toUInt32 31)).toInt32 &&& (1431655765 : Int32))).toUInt32 >>> ((iz 2).toUInt32 &&& Int32.toUInt32 31)).toInt32 &&& (858993459 : Int32))).toUInt32 >>> ((iz 4).toUInt32 &&& Int32.toUInt32 31)).toInt32) &&& (252645135 : Int32)).toUInt32 >>> ((iz 8).toUInt32 &&& Int32.toUInt32 31)).toInt32) + (((((((a1 - ((a1.toUInt32 >>> ((iz 1).toUInt32 &&& Int32.toUInt32 31)).toInt32 &&& (1431655765 : Int32))) &&& (858993459 : Int32)) + (((a1 - ((a1.toUInt32 >>> ((iz 1).toUInt32 &&& Int32.toUInt32 31)).toInt32 &&& (1431655765 : Int32))).toUInt32 >>> ((iz 2).toUInt32 &&& Int32.toUInt32 31)).toInt32 &&& (858993459 : Int32))) + ((((a1 - ((a1.toUInt32 >>> ((iz 1).toUInt32 &&& Int32.toUInt32 31)).toInt32 &&& (1431655765 : Int32))) &&& (858993459 : Int32)) + (((a1 - ((a1.toUInt32 >>> ((iz 1).toUInt32 &&& Int32.toUInt32 31)).toInt32 &&& (1431655765 : Int32))).toUInt32 >>> ((iz 2).toUInt32 &&& Int32.toUInt32 31)).toInt32 &&& (858993459 : Int32))).toUInt32 >>> ((iz 4).toUInt32 &&& Int32.toUInt32 31)).toInt32) &&& (252645135 : Int32)) + ((((((a1 - ((a1.toUInt32 >>> ((iz 1).toUInt32 &&& Int32.toUInt32 31)).toInt32 &&& (1431655765 : Int32))) &&& (858993459 : Int32)) + (((a1 - ((a1.toUInt32 >>> ((iz 1).toUInt32 &&& Int32.toUInt32 31)).toInt32 &&& (1431655765 : Int32))).toUInt32 >>> ((iz 2).toUInt32 &&& Int32.toUInt32 31)).toInt32 &&& (858993459 : Int32))) + ((((a1 - ((a1.toUInt32 >>> ((iz 1).toUInt32 &&& Int32.toUInt32 31)).toInt32 &&& (1431655765 : Int32))) &&& (858993459 : Int32)) + (((a1 - ((a1.toUInt32 >>> ((iz 1).toUInt32 &&& Int32.toUInt32 31)).toInt32 &&& (1431655765 : Int32))).toUInt32 >>> ((iz 2).toUInt32 &&& Int32.toUInt32 31)).toInt32 &&& (858993459 : Int32))).toUInt32 >>> ((iz 4).toUInt32 &&& Int32.toUInt32 31)).toInt32) &&& (252645135 : Int32)).toUInt32 >>> ((iz 8).toUInt32 &&& Int32.toUInt32 31)).toInt32).toUInt32 >>> ((iz 16).toUInt32 &&& Int32.toUInt32 31)).toInt32))] dJ6_bitCount_0f7a4_47 rfl (Nat.le_of_ble_eq_true rfl) rfl rfl ?_
  refine nx_iload_n rfl dJ6_bitCount_0f7a4_48 rfl ?_
  refine nx_bipush (by decide +kernel) dJ6_bitCount_0f7a4_49 rfl ?_
  refine nx_iand dJ6_bitCount_0f7a4_51 rfl ?_
  exact nx_iret dJ6_bitCount_0f7a4_52 rfl rfl
theorem cJ_bitCount_0f7a4 (l : Launch) {Γ : nx_G} {M : nx_M} {u : Nat} {a1 : Int32} {r : Int32}  (h : fJ_bitCount_0f7a4 u a1 = some r) : nx_Ct l Γ 1 yJ6_bitCount_0f7a4 cJ6_bitCount_0f7a4 1 (some .int) [.int a1] M (some (.int r), M) :=
  nx_ct (out := fun r0 : Int32 => (some (.int r0), M)) [some (.int a1)] pn_RJ6 h (Nat.le_of_ble_eq_true rfl) rfl (fun X Z _ => jJ_bitCount_0f7a4  u a1 X Z)
theorem dX6_keys_0 : decode cX6_keys 0 = .ok (.aload_n 0, 1) := by decide +kernel
theorem dX6_keys_1 : decode cX6_keys 1 = .ok (.getfield 11, 3) := by decide +kernel
theorem dX6_keys_4 : decode cX6_keys 4 = .ok (.iconst 3, 1) := by decide +kernel
theorem dX6_keys_5 : decode cX6_keys 5 = .ok (.iaload, 1) := by decide +kernel
theorem dX6_keys_6 : decode cX6_keys 6 = .ok (.ireturn, 1) := by decide +kernel
def fW_keys (u : Nat) (f : (Nat → Int32)) : Option (Int32) :=
  (nx_rd 514 f (iz 3)).bind fun x1 =>
  some x1
set_option maxRecDepth 4000 in
theorem jW_keys {Γ : nx_G} {M0 : nx_M} {w c : Nat} (hw : M0.1 w = some (.inr (6, [.ref c]))) (hc : w ≠ c) (u : Nat) (f : (Nat → Int32))   (X : nx_X) (Z : nx_Z) : nx_J Γ X (RX6, cX6_keys, 1, (some .int), "keys", 1) Z (fun r0 : Int32 => .inr (some (.int r0), (wW Γ M0 c f))) (.inl (0, [some (.ref w)], [], (wW Γ M0 c f))) (fW_keys u f) := by
  unfold fW_keys
  refine nx_aload_n rfl dX6_keys_0 rfl ?_
  refine nx_getf fl_6_11 ((nx_put_ne hc).trans hw) rfl dX6_keys_1 rfl ?_
  refine nx_iconst dX6_keys_4 rfl ?_
  refine nx_iald nx_put_self dX6_keys_5 rfl (fun x1 => ?_)
  exact nx_iret dX6_keys_6 rfl rfl
theorem cW_keys (l : Launch) {Γ : nx_G} {M0 : nx_M} {w c : Nat} (hw : M0.1 w = some (.inr (6, [.ref c]))) (hc : w ≠ c) {u : Nat} {f : (Nat → Int32)} {r : Int32}  (h : fW_keys u f = some r) : nx_Ct l Γ 1 yX6_keys cX6_keys 1 (some .int) [.ref w] (wW Γ M0 c f) (some (.int r), (wW Γ M0 c f)) :=
  nx_ct (out := fun r0 : Int32 => (some (.int r0), (wW Γ M0 c f))) [some (.ref w)] pn_RX6 h (Nat.le_of_ble_eq_true rfl) rfl (fun X Z _ => jW_keys hw hc u f X Z)
theorem dX6_hasStore_0 : decode cX6_hasStore 0 = .ok (.aload_n 0, 1) := by decide +kernel
theorem dX6_hasStore_1 : decode cX6_hasStore 1 = .ok (.getfield 11, 3) := by decide +kernel
theorem dX6_hasStore_4 : decode cX6_hasStore 4 = .ok (.iconst 3, 1) := by decide +kernel
theorem dX6_hasStore_5 : decode cX6_hasStore 5 = .ok (.iaload, 1) := by decide +kernel
theorem dX6_hasStore_6 : decode cX6_hasStore 6 = .ok (.ifCond .le 7, 3) := by decide +kernel
theorem dX6_hasStore_9 : decode cX6_hasStore 9 = .ok (.iconst 1, 1) := by decide +kernel
theorem dX6_hasStore_10 : decode cX6_hasStore 10 = .ok (.goto 4, 3) := by decide +kernel
theorem dX6_hasStore_13 : decode cX6_hasStore 13 = .ok (.iconst 0, 1) := by decide +kernel
theorem dX6_hasStore_14 : decode cX6_hasStore 14 = .ok (.ireturn, 1) := by decide +kernel
def fW_hasStore (u : Nat) (f : (Nat → Int32)) : Option (Bool) :=
  (nx_rd 514 f (iz 3)).bind fun x1 =>
  if x1 ≤ iz 0 then
    some false
  else
    some true
set_option maxRecDepth 4000 in
theorem jW_hasStore {Γ : nx_G} {M0 : nx_M} {w c : Nat} (hw : M0.1 w = some (.inr (6, [.ref c]))) (hc : w ≠ c) (u : Nat) (f : (Nat → Int32))   (X : nx_X) (Z : nx_Z) : nx_J Γ X (RX6, cX6_hasStore, 1, (some .boolean), "hasStore", 1) Z (fun r0 : Bool => .inr (some (.int (bz r0)), (wW Γ M0 c f))) (.inl (0, [some (.ref w)], [], (wW Γ M0 c f))) (fW_hasStore u f) := by
  unfold fW_hasStore
  refine nx_aload_n rfl dX6_hasStore_0 rfl ?_
  refine nx_getf fl_6_11 ((nx_put_ne hc).trans hw) rfl dX6_hasStore_1 rfl ?_
  refine nx_iconst dX6_hasStore_4 rfl ?_
  refine nx_iald nx_put_self dX6_hasStore_5 rfl (fun x1 => ?_)
  refine nx_if_le (t := 13) dX6_hasStore_6 (by decide) rfl ?_ ?_
  · refine nx_iconst dX6_hasStore_13 rfl ?_
    exact nx_zret (b := false) dX6_hasStore_14 rfl rfl
  · refine nx_iconst dX6_hasStore_9 rfl ?_
    refine nx_goto (q := 14) dX6_hasStore_10 (by decide) ?_
    exact nx_zret (b := true) dX6_hasStore_14 rfl rfl
theorem cW_hasStore (l : Launch) {Γ : nx_G} {M0 : nx_M} {w c : Nat} (hw : M0.1 w = some (.inr (6, [.ref c]))) (hc : w ≠ c) {u : Nat} {f : (Nat → Int32)} {r : Bool}  (h : fW_hasStore u f = some r) : nx_Ct l Γ 1 yX6_hasStore cX6_hasStore 1 (some .boolean) [.ref w] (wW Γ M0 c f) (some (.int (bz r)), (wW Γ M0 c f)) :=
  nx_ct (out := fun r0 : Bool => (some (.int (bz r0)), (wW Γ M0 c f))) [some (.ref w)] pn_RX6 h (Nat.le_of_ble_eq_true rfl) rfl (fun X Z _ => jW_hasStore hw hc u f X Z)
theorem dX6_hasKey_0 : decode cX6_hasKey 0 = .ok (.iload_n 1, 1) := by decide +kernel
theorem dX6_hasKey_1 : decode cX6_hasKey 1 = .ok (.bipush 6, 2) := by decide +kernel
theorem dX6_hasKey_3 : decode cX6_hasKey 3 = .ok (.invokestatic 33, 3) := by decide +kernel
theorem dX6_hasKey_6 : decode cX6_hasKey 6 = .ok (.ifCond .eq 17, 3) := by decide +kernel
theorem dX6_hasKey_9 : decode cX6_hasKey 9 = .ok (.iload_n 1, 1) := by decide +kernel
theorem dX6_hasKey_10 : decode cX6_hasKey 10 = .ok (.aload_n 0, 1) := by decide +kernel
theorem dX6_hasKey_11 : decode cX6_hasKey 11 = .ok (.getfield 11, 3) := by decide +kernel
theorem dX6_hasKey_14 : decode cX6_hasKey 14 = .ok (.iconst 3, 1) := by decide +kernel
theorem dX6_hasKey_15 : decode cX6_hasKey 15 = .ok (.iaload, 1) := by decide +kernel
theorem dX6_hasKey_16 : decode cX6_hasKey 16 = .ok (.if_icmp .ge 7, 3) := by decide +kernel
theorem dX6_hasKey_19 : decode cX6_hasKey 19 = .ok (.iconst 1, 1) := by decide +kernel
theorem dX6_hasKey_20 : decode cX6_hasKey 20 = .ok (.goto 4, 3) := by decide +kernel
theorem dX6_hasKey_23 : decode cX6_hasKey 23 = .ok (.iconst 0, 1) := by decide +kernel
theorem dX6_hasKey_24 : decode cX6_hasKey 24 = .ok (.ireturn, 1) := by decide +kernel
def fW_hasKey (u : Nat) (f : (Nat → Int32)) (a1 : Int32) : Option (Bool) :=
  (fL_within u a1 (iz 6)).bind fun b1 =>
  if b1 = true then
    (nx_rd 514 f (iz 3)).bind fun x2 =>
    if x2 ≤ a1 then
      some false
    else
      some true
  else
    some false
set_option maxRecDepth 4000 in
theorem jW_hasKey {Γ : nx_G} {M0 : nx_M} {w c : Nat} (hw : M0.1 w = some (.inr (6, [.ref c]))) (hc : w ≠ c) (u : Nat) (f : (Nat → Int32)) (a1 : Int32)   (X : nx_X) (Z : nx_Z) : nx_J Γ X (RX6, cX6_hasKey, 2, (some .boolean), "hasKey", 2) Z (fun r0 : Bool => .inr (some (.int (bz r0)), (wW Γ M0 c f))) (.inl (0, [some (.ref w), some (.int a1)], [], (wW Γ M0 c f))) (fW_hasKey u f a1) := by
  unfold fW_hasKey
  refine nx_iload_n rfl dX6_hasKey_0 rfl ?_
  refine nx_bipush (by decide +kernel) dX6_hasKey_1 rfl ?_
  refine nx_callSr [.int a1, .int (iz 6)] (fun r => .int (bz r)) (fun _ => (wW Γ M0 c f)) cw_6_33 wd_442 (fun r e => cL_within X.2.1  e) rfl rfl (Nat.le_of_ble_eq_true rfl) (Nat.le_of_ble_eq_true rfl) dX6_hasKey_3 rfl (fun b1 => ?_)
  refine nx_ifz_eq (t := 23) dX6_hasKey_6 (by decide) rfl ?_ ?_
  · refine nx_iconst dX6_hasKey_23 rfl ?_
    exact nx_zret (b := false) dX6_hasKey_24 rfl rfl
  · refine nx_iload_n rfl dX6_hasKey_9 rfl ?_
    refine nx_aload_n rfl dX6_hasKey_10 rfl ?_
    refine nx_getf fl_6_11 ((nx_put_ne hc).trans hw) rfl dX6_hasKey_11 rfl ?_
    refine nx_iconst dX6_hasKey_14 rfl ?_
    refine nx_iald nx_put_self dX6_hasKey_15 rfl (fun x2 => ?_)
    refine nx_icmp_ge (t := 23) dX6_hasKey_16 (by decide) rfl ?_ ?_
    · refine nx_iconst dX6_hasKey_23 rfl ?_
      exact nx_zret (b := false) dX6_hasKey_24 rfl rfl
    · refine nx_iconst dX6_hasKey_19 rfl ?_
      refine nx_goto (q := 24) dX6_hasKey_20 (by decide) ?_
      exact nx_zret (b := true) dX6_hasKey_24 rfl rfl
theorem cW_hasKey (l : Launch) {Γ : nx_G} {M0 : nx_M} {w c : Nat} (hw : M0.1 w = some (.inr (6, [.ref c]))) (hc : w ≠ c) {u : Nat} {f : (Nat → Int32)} {a1 : Int32} {r : Bool}  (h : fW_hasKey u f a1 = some r) : nx_Ct l Γ 2 yX6_hasKey cX6_hasKey 2 (some .boolean) [.ref w, .int a1] (wW Γ M0 c f) (some (.int (bz r)), (wW Γ M0 c f)) :=
  nx_ct (out := fun r0 : Bool => (some (.int (bz r0)), (wW Γ M0 c f))) [some (.ref w), some (.int a1)] pn_RX6 h (Nat.le_of_ble_eq_true rfl) rfl (fun X Z _ => jW_hasKey hw hc u f a1 X Z)
theorem dX6_ruleOf_0 : decode cX6_ruleOf 0 = .ok (.aload_n 0, 1) := by decide +kernel
theorem dX6_ruleOf_1 : decode cX6_ruleOf 1 = .ok (.getfield 11, 3) := by decide +kernel
theorem dX6_ruleOf_4 : decode cX6_ruleOf 4 = .ok (.iconst 0, 1) := by decide +kernel
theorem dX6_ruleOf_5 : decode cX6_ruleOf 5 = .ok (.iload_n 1, 1) := by decide +kernel
theorem dX6_ruleOf_6 : decode cX6_ruleOf 6 = .ok (.iadd, 1) := by decide +kernel
theorem dX6_ruleOf_7 : decode cX6_ruleOf 7 = .ok (.iaload, 1) := by decide +kernel
theorem dX6_ruleOf_8 : decode cX6_ruleOf 8 = .ok (.ireturn, 1) := by decide +kernel
def fW_ruleOf (u : Nat) (f : (Nat → Int32)) (a1 : Int32) : Option (Int32) :=
  (nx_rd 514 f ((iz 0) + a1)).bind fun x1 =>
  some x1
set_option maxRecDepth 4000 in
theorem jW_ruleOf {Γ : nx_G} {M0 : nx_M} {w c : Nat} (hw : M0.1 w = some (.inr (6, [.ref c]))) (hc : w ≠ c) (u : Nat) (f : (Nat → Int32)) (a1 : Int32)   (X : nx_X) (Z : nx_Z) : nx_J Γ X (RX6, cX6_ruleOf, 2, (some .int), "ruleOf", 1) Z (fun r0 : Int32 => .inr (some (.int r0), (wW Γ M0 c f))) (.inl (0, [some (.ref w), some (.int a1)], [], (wW Γ M0 c f))) (fW_ruleOf u f a1) := by
  unfold fW_ruleOf
  refine nx_aload_n rfl dX6_ruleOf_0 rfl ?_
  refine nx_getf fl_6_11 ((nx_put_ne hc).trans hw) rfl dX6_ruleOf_1 rfl ?_
  refine nx_iconst dX6_ruleOf_4 rfl ?_
  refine nx_iload_n rfl dX6_ruleOf_5 rfl ?_
  refine nx_iadd dX6_ruleOf_6 rfl ?_
  refine nx_iald nx_put_self dX6_ruleOf_7 rfl (fun x1 => ?_)
  exact nx_iret dX6_ruleOf_8 rfl rfl
theorem cW_ruleOf (l : Launch) {Γ : nx_G} {M0 : nx_M} {w c : Nat} (hw : M0.1 w = some (.inr (6, [.ref c]))) (hc : w ≠ c) {u : Nat} {f : (Nat → Int32)} {a1 : Int32} {r : Int32}  (h : fW_ruleOf u f a1 = some r) : nx_Ct l Γ 1 yX6_ruleOf cX6_ruleOf 2 (some .int) [.ref w, .int a1] (wW Γ M0 c f) (some (.int r), (wW Γ M0 c f)) :=
  nx_ct (out := fun r0 : Int32 => (some (.int r0), (wW Γ M0 c f))) [some (.ref w), some (.int a1)] pn_RX6 h (Nat.le_of_ble_eq_true rfl) rfl (fun X Z _ => jW_ruleOf hw hc u f a1 X Z)
theorem dX6_clock_0 : decode cX6_clock 0 = .ok (.aload_n 0, 1) := by decide +kernel
theorem dX6_clock_1 : decode cX6_clock 1 = .ok (.getfield 11, 3) := by decide +kernel
theorem dX6_clock_4 : decode cX6_clock 4 = .ok (.iconst 4, 1) := by decide +kernel
theorem dX6_clock_5 : decode cX6_clock 5 = .ok (.iaload, 1) := by decide +kernel
theorem dX6_clock_6 : decode cX6_clock 6 = .ok (.ireturn, 1) := by decide +kernel
def fW_clock (u : Nat) (f : (Nat → Int32)) : Option (Int32) :=
  (nx_rd 514 f (iz 4)).bind fun x1 =>
  some x1
set_option maxRecDepth 4000 in
theorem jW_clock {Γ : nx_G} {M0 : nx_M} {w c : Nat} (hw : M0.1 w = some (.inr (6, [.ref c]))) (hc : w ≠ c) (u : Nat) (f : (Nat → Int32))   (X : nx_X) (Z : nx_Z) : nx_J Γ X (RX6, cX6_clock, 1, (some .int), "clock", 1) Z (fun r0 : Int32 => .inr (some (.int r0), (wW Γ M0 c f))) (.inl (0, [some (.ref w)], [], (wW Γ M0 c f))) (fW_clock u f) := by
  unfold fW_clock
  refine nx_aload_n rfl dX6_clock_0 rfl ?_
  refine nx_getf fl_6_11 ((nx_put_ne hc).trans hw) rfl dX6_clock_1 rfl ?_
  refine nx_iconst dX6_clock_4 rfl ?_
  refine nx_iald nx_put_self dX6_clock_5 rfl (fun x1 => ?_)
  exact nx_iret dX6_clock_6 rfl rfl
theorem cW_clock (l : Launch) {Γ : nx_G} {M0 : nx_M} {w c : Nat} (hw : M0.1 w = some (.inr (6, [.ref c]))) (hc : w ≠ c) {u : Nat} {f : (Nat → Int32)} {r : Int32}  (h : fW_clock u f = some r) : nx_Ct l Γ 1 yX6_clock cX6_clock 1 (some .int) [.ref w] (wW Γ M0 c f) (some (.int r), (wW Γ M0 c f)) :=
  nx_ct (out := fun r0 : Int32 => (some (.int r0), (wW Γ M0 c f))) [some (.ref w)] pn_RX6 h (Nat.le_of_ble_eq_true rfl) rfl (fun X Z _ => jW_clock hw hc u f X Z)
theorem dX6_floor_0 : decode cX6_floor 0 = .ok (.aload_n 0, 1) := by decide +kernel
theorem dX6_floor_1 : decode cX6_floor 1 = .ok (.getfield 11, 3) := by decide +kernel
theorem dX6_floor_4 : decode cX6_floor 4 = .ok (.iconst 5, 1) := by decide +kernel
theorem dX6_floor_5 : decode cX6_floor 5 = .ok (.iaload, 1) := by decide +kernel
theorem dX6_floor_6 : decode cX6_floor 6 = .ok (.ireturn, 1) := by decide +kernel
def fW_floor (u : Nat) (f : (Nat → Int32)) : Option (Int32) :=
  (nx_rd 514 f (iz 5)).bind fun x1 =>
  some x1
set_option maxRecDepth 4000 in
theorem jW_floor {Γ : nx_G} {M0 : nx_M} {w c : Nat} (hw : M0.1 w = some (.inr (6, [.ref c]))) (hc : w ≠ c) (u : Nat) (f : (Nat → Int32))   (X : nx_X) (Z : nx_Z) : nx_J Γ X (RX6, cX6_floor, 1, (some .int), "floor", 1) Z (fun r0 : Int32 => .inr (some (.int r0), (wW Γ M0 c f))) (.inl (0, [some (.ref w)], [], (wW Γ M0 c f))) (fW_floor u f) := by
  unfold fW_floor
  refine nx_aload_n rfl dX6_floor_0 rfl ?_
  refine nx_getf fl_6_11 ((nx_put_ne hc).trans hw) rfl dX6_floor_1 rfl ?_
  refine nx_iconst dX6_floor_4 rfl ?_
  refine nx_iald nx_put_self dX6_floor_5 rfl (fun x1 => ?_)
  exact nx_iret dX6_floor_6 rfl rfl
theorem cW_floor (l : Launch) {Γ : nx_G} {M0 : nx_M} {w c : Nat} (hw : M0.1 w = some (.inr (6, [.ref c]))) (hc : w ≠ c) {u : Nat} {f : (Nat → Int32)} {r : Int32}  (h : fW_floor u f = some r) : nx_Ct l Γ 1 yX6_floor cX6_floor 1 (some .int) [.ref w] (wW Γ M0 c f) (some (.int r), (wW Γ M0 c f)) :=
  nx_ct (out := fun r0 : Int32 => (some (.int r0), (wW Γ M0 c f))) [some (.ref w)] pn_RX6 h (Nat.le_of_ble_eq_true rfl) rfl (fun X Z _ => jW_floor hw hc u f X Z)
theorem dX6_stampsByHand_0 : decode cX6_stampsByHand 0 = .ok (.aload_n 0, 1) := by decide +kernel
theorem dX6_stampsByHand_1 : decode cX6_stampsByHand 1 = .ok (.getfield 11, 3) := by decide +kernel
theorem dX6_stampsByHand_4 : decode cX6_stampsByHand 4 = .ok (.bipush 7, 2) := by decide +kernel
theorem dX6_stampsByHand_6 : decode cX6_stampsByHand 6 = .ok (.iaload, 1) := by decide +kernel
theorem dX6_stampsByHand_7 : decode cX6_stampsByHand 7 = .ok (.ireturn, 1) := by decide +kernel
def fW_stampsByHand (u : Nat) (f : (Nat → Int32)) : Option (Int32) :=
  (nx_rd 514 f (iz 7)).bind fun x1 =>
  some x1
set_option maxRecDepth 4000 in
theorem jW_stampsByHand {Γ : nx_G} {M0 : nx_M} {w c : Nat} (hw : M0.1 w = some (.inr (6, [.ref c]))) (hc : w ≠ c) (u : Nat) (f : (Nat → Int32))   (X : nx_X) (Z : nx_Z) : nx_J Γ X (RX6, cX6_stampsByHand, 1, (some .int), "stampsByHand", 1) Z (fun r0 : Int32 => .inr (some (.int r0), (wW Γ M0 c f))) (.inl (0, [some (.ref w)], [], (wW Γ M0 c f))) (fW_stampsByHand u f) := by
  unfold fW_stampsByHand
  refine nx_aload_n rfl dX6_stampsByHand_0 rfl ?_
  refine nx_getf fl_6_11 ((nx_put_ne hc).trans hw) rfl dX6_stampsByHand_1 rfl ?_
  refine nx_bipush (by decide +kernel) dX6_stampsByHand_4 rfl ?_
  refine nx_iald nx_put_self dX6_stampsByHand_6 rfl (fun x1 => ?_)
  exact nx_iret dX6_stampsByHand_7 rfl rfl
theorem cW_stampsByHand (l : Launch) {Γ : nx_G} {M0 : nx_M} {w c : Nat} (hw : M0.1 w = some (.inr (6, [.ref c]))) (hc : w ≠ c) {u : Nat} {f : (Nat → Int32)} {r : Int32}  (h : fW_stampsByHand u f = some r) : nx_Ct l Γ 1 yX6_stampsByHand cX6_stampsByHand 1 (some .int) [.ref w] (wW Γ M0 c f) (some (.int r), (wW Γ M0 c f)) :=
  nx_ct (out := fun r0 : Int32 => (some (.int r0), (wW Γ M0 c f))) [some (.ref w)] pn_RX6 h (Nat.le_of_ble_eq_true rfl) rfl (fun X Z _ => jW_stampsByHand hw hc u f X Z)
theorem dX6_stateOf_0 : decode cX6_stateOf 0 = .ok (.aload_n 0, 1) := by decide +kernel
theorem dX6_stateOf_1 : decode cX6_stateOf 1 = .ok (.getfield 11, 3) := by decide +kernel
theorem dX6_stateOf_4 : decode cX6_stateOf 4 = .ok (.bipush 40, 2) := by decide +kernel
theorem dX6_stateOf_6 : decode cX6_stateOf 6 = .ok (.iload_n 1, 1) := by decide +kernel
theorem dX6_stateOf_7 : decode cX6_stateOf 7 = .ok (.iadd, 1) := by decide +kernel
theorem dX6_stateOf_8 : decode cX6_stateOf 8 = .ok (.iaload, 1) := by decide +kernel
theorem dX6_stateOf_9 : decode cX6_stateOf 9 = .ok (.ireturn, 1) := by decide +kernel
def fW_stateOf (u : Nat) (f : (Nat → Int32)) (a1 : Int32) : Option (Int32) :=
  (nx_rd 514 f ((iz 40) + a1)).bind fun x1 =>
  some x1
set_option maxRecDepth 4000 in
theorem jW_stateOf {Γ : nx_G} {M0 : nx_M} {w c : Nat} (hw : M0.1 w = some (.inr (6, [.ref c]))) (hc : w ≠ c) (u : Nat) (f : (Nat → Int32)) (a1 : Int32)   (X : nx_X) (Z : nx_Z) : nx_J Γ X (RX6, cX6_stateOf, 2, (some .int), "stateOf", 1) Z (fun r0 : Int32 => .inr (some (.int r0), (wW Γ M0 c f))) (.inl (0, [some (.ref w), some (.int a1)], [], (wW Γ M0 c f))) (fW_stateOf u f a1) := by
  unfold fW_stateOf
  refine nx_aload_n rfl dX6_stateOf_0 rfl ?_
  refine nx_getf fl_6_11 ((nx_put_ne hc).trans hw) rfl dX6_stateOf_1 rfl ?_
  refine nx_bipush (by decide +kernel) dX6_stateOf_4 rfl ?_
  refine nx_iload_n rfl dX6_stateOf_6 rfl ?_
  refine nx_iadd dX6_stateOf_7 rfl ?_
  refine nx_iald nx_put_self dX6_stateOf_8 rfl (fun x1 => ?_)
  exact nx_iret dX6_stateOf_9 rfl rfl
theorem cW_stateOf (l : Launch) {Γ : nx_G} {M0 : nx_M} {w c : Nat} (hw : M0.1 w = some (.inr (6, [.ref c]))) (hc : w ≠ c) {u : Nat} {f : (Nat → Int32)} {a1 : Int32} {r : Int32}  (h : fW_stateOf u f a1 = some r) : nx_Ct l Γ 1 yX6_stateOf cX6_stateOf 2 (some .int) [.ref w, .int a1] (wW Γ M0 c f) (some (.int r), (wW Γ M0 c f)) :=
  nx_ct (out := fun r0 : Int32 => (some (.int r0), (wW Γ M0 c f))) [some (.ref w), some (.int a1)] pn_RX6 h (Nat.le_of_ble_eq_true rfl) rfl (fun X Z _ => jW_stateOf hw hc u f a1 X Z)
theorem dX6_stampOf_0 : decode cX6_stampOf 0 = .ok (.aload_n 0, 1) := by decide +kernel
theorem dX6_stampOf_1 : decode cX6_stampOf 1 = .ok (.getfield 11, 3) := by decide +kernel
theorem dX6_stampOf_4 : decode cX6_stampOf 4 = .ok (.bipush 48, 2) := by decide +kernel
theorem dX6_stampOf_6 : decode cX6_stampOf 6 = .ok (.iload_n 1, 1) := by decide +kernel
theorem dX6_stampOf_7 : decode cX6_stampOf 7 = .ok (.iadd, 1) := by decide +kernel
theorem dX6_stampOf_8 : decode cX6_stampOf 8 = .ok (.iaload, 1) := by decide +kernel
theorem dX6_stampOf_9 : decode cX6_stampOf 9 = .ok (.ireturn, 1) := by decide +kernel
def fW_stampOf (u : Nat) (f : (Nat → Int32)) (a1 : Int32) : Option (Int32) :=
  (nx_rd 514 f ((iz 48) + a1)).bind fun x1 =>
  some x1
set_option maxRecDepth 4000 in
theorem jW_stampOf {Γ : nx_G} {M0 : nx_M} {w c : Nat} (hw : M0.1 w = some (.inr (6, [.ref c]))) (hc : w ≠ c) (u : Nat) (f : (Nat → Int32)) (a1 : Int32)   (X : nx_X) (Z : nx_Z) : nx_J Γ X (RX6, cX6_stampOf, 2, (some .int), "stampOf", 1) Z (fun r0 : Int32 => .inr (some (.int r0), (wW Γ M0 c f))) (.inl (0, [some (.ref w), some (.int a1)], [], (wW Γ M0 c f))) (fW_stampOf u f a1) := by
  unfold fW_stampOf
  refine nx_aload_n rfl dX6_stampOf_0 rfl ?_
  refine nx_getf fl_6_11 ((nx_put_ne hc).trans hw) rfl dX6_stampOf_1 rfl ?_
  refine nx_bipush (by decide +kernel) dX6_stampOf_4 rfl ?_
  refine nx_iload_n rfl dX6_stampOf_6 rfl ?_
  refine nx_iadd dX6_stampOf_7 rfl ?_
  refine nx_iald nx_put_self dX6_stampOf_8 rfl (fun x1 => ?_)
  exact nx_iret dX6_stampOf_9 rfl rfl
theorem cW_stampOf (l : Launch) {Γ : nx_G} {M0 : nx_M} {w c : Nat} (hw : M0.1 w = some (.inr (6, [.ref c]))) (hc : w ≠ c) {u : Nat} {f : (Nat → Int32)} {a1 : Int32} {r : Int32}  (h : fW_stampOf u f a1 = some r) : nx_Ct l Γ 1 yX6_stampOf cX6_stampOf 2 (some .int) [.ref w, .int a1] (wW Γ M0 c f) (some (.int r), (wW Γ M0 c f)) :=
  nx_ct (out := fun r0 : Int32 => (some (.int r0), (wW Γ M0 c f))) [some (.ref w), some (.int a1)] pn_RX6 h (Nat.le_of_ble_eq_true rfl) rfl (fun X Z _ => jW_stampOf hw hc u f a1 X Z)
theorem dX6_partOf_0 : decode cX6_partOf 0 = .ok (.aload_n 0, 1) := by decide +kernel
theorem dX6_partOf_1 : decode cX6_partOf 1 = .ok (.getfield 11, 3) := by decide +kernel
theorem dX6_partOf_4 : decode cX6_partOf 4 = .ok (.bipush 40, 2) := by decide +kernel
theorem dX6_partOf_6 : decode cX6_partOf 6 = .ok (.iload_n 2, 1) := by decide +kernel
theorem dX6_partOf_7 : decode cX6_partOf 7 = .ok (.bipush 8, 2) := by decide +kernel
theorem dX6_partOf_9 : decode cX6_partOf 9 = .ok (.imul, 1) := by decide +kernel
theorem dX6_partOf_10 : decode cX6_partOf 10 = .ok (.iadd, 1) := by decide +kernel
theorem dX6_partOf_11 : decode cX6_partOf 11 = .ok (.iload_n 1, 1) := by decide +kernel
theorem dX6_partOf_12 : decode cX6_partOf 12 = .ok (.iadd, 1) := by decide +kernel
theorem dX6_partOf_13 : decode cX6_partOf 13 = .ok (.iaload, 1) := by decide +kernel
theorem dX6_partOf_14 : decode cX6_partOf 14 = .ok (.ireturn, 1) := by decide +kernel
def fW_partOf (u : Nat) (f : (Nat → Int32)) (a1 : Int32) (a2 : Int32) : Option (Int32) :=
  (nx_rd 514 f (((iz 40) + (a2 * (iz 8))) + a1)).bind fun x1 =>
  some x1
set_option maxRecDepth 4000 in
theorem jW_partOf {Γ : nx_G} {M0 : nx_M} {w c : Nat} (hw : M0.1 w = some (.inr (6, [.ref c]))) (hc : w ≠ c) (u : Nat) (f : (Nat → Int32)) (a1 : Int32) (a2 : Int32)   (X : nx_X) (Z : nx_Z) : nx_J Γ X (RX6, cX6_partOf, 3, (some .int), "partOf", 1) Z (fun r0 : Int32 => .inr (some (.int r0), (wW Γ M0 c f))) (.inl (0, [some (.ref w), some (.int a1), some (.int a2)], [], (wW Γ M0 c f))) (fW_partOf u f a1 a2) := by
  unfold fW_partOf
  refine nx_aload_n rfl dX6_partOf_0 rfl ?_
  refine nx_getf fl_6_11 ((nx_put_ne hc).trans hw) rfl dX6_partOf_1 rfl ?_
  refine nx_bipush (by decide +kernel) dX6_partOf_4 rfl ?_
  refine nx_iload_n rfl dX6_partOf_6 rfl ?_
  refine nx_bipush (by decide +kernel) dX6_partOf_7 rfl ?_
  refine nx_imul dX6_partOf_9 rfl ?_
  refine nx_iadd dX6_partOf_10 rfl ?_
  refine nx_iload_n rfl dX6_partOf_11 rfl ?_
  refine nx_iadd dX6_partOf_12 rfl ?_
  refine nx_iald nx_put_self dX6_partOf_13 rfl (fun x1 => ?_)
  exact nx_iret dX6_partOf_14 rfl rfl
theorem cW_partOf (l : Launch) {Γ : nx_G} {M0 : nx_M} {w c : Nat} (hw : M0.1 w = some (.inr (6, [.ref c]))) (hc : w ≠ c) {u : Nat} {f : (Nat → Int32)} {a1 : Int32} {a2 : Int32} {r : Int32}  (h : fW_partOf u f a1 a2 = some r) : nx_Ct l Γ 1 yX6_partOf cX6_partOf 3 (some .int) [.ref w, .int a1, .int a2] (wW Γ M0 c f) (some (.int r), (wW Γ M0 c f)) :=
  nx_ct (out := fun r0 : Int32 => (some (.int r0), (wW Γ M0 c f))) [some (.ref w), some (.int a1), some (.int a2)] pn_RX6 h (Nat.le_of_ble_eq_true rfl) rfl (fun X Z _ => jW_partOf hw hc u f a1 a2 X Z)
theorem dX6_isLive_0 : decode cX6_isLive 0 = .ok (.aload_n 0, 1) := by decide +kernel
theorem dX6_isLive_1 : decode cX6_isLive 1 = .ok (.getfield 11, 3) := by decide +kernel
theorem dX6_isLive_4 : decode cX6_isLive 4 = .ok (.bipush 40, 2) := by decide +kernel
theorem dX6_isLive_6 : decode cX6_isLive 6 = .ok (.iload_n 1, 1) := by decide +kernel
theorem dX6_isLive_7 : decode cX6_isLive 7 = .ok (.iadd, 1) := by decide +kernel
theorem dX6_isLive_8 : decode cX6_isLive 8 = .ok (.iaload, 1) := by decide +kernel
theorem dX6_isLive_9 : decode cX6_isLive 9 = .ok (.iconst 1, 1) := by decide +kernel
theorem dX6_isLive_10 : decode cX6_isLive 10 = .ok (.if_icmp .eq 16, 3) := by decide +kernel
theorem dX6_isLive_13 : decode cX6_isLive 13 = .ok (.aload_n 0, 1) := by decide +kernel
theorem dX6_isLive_14 : decode cX6_isLive 14 = .ok (.getfield 11, 3) := by decide +kernel
theorem dX6_isLive_17 : decode cX6_isLive 17 = .ok (.bipush 40, 2) := by decide +kernel
theorem dX6_isLive_19 : decode cX6_isLive 19 = .ok (.iload_n 1, 1) := by decide +kernel
theorem dX6_isLive_20 : decode cX6_isLive 20 = .ok (.iadd, 1) := by decide +kernel
theorem dX6_isLive_21 : decode cX6_isLive 21 = .ok (.iaload, 1) := by decide +kernel
theorem dX6_isLive_22 : decode cX6_isLive 22 = .ok (.iconst 2, 1) := by decide +kernel
theorem dX6_isLive_23 : decode cX6_isLive 23 = .ok (.if_icmp .ne 7, 3) := by decide +kernel
theorem dX6_isLive_26 : decode cX6_isLive 26 = .ok (.iconst 1, 1) := by decide +kernel
theorem dX6_isLive_27 : decode cX6_isLive 27 = .ok (.goto 4, 3) := by decide +kernel
theorem dX6_isLive_30 : decode cX6_isLive 30 = .ok (.iconst 0, 1) := by decide +kernel
theorem dX6_isLive_31 : decode cX6_isLive 31 = .ok (.ireturn, 1) := by decide +kernel
def fW_isLive (u : Nat) (f : (Nat → Int32)) (a1 : Int32) : Option (Bool) :=
  (nx_rd 514 f ((iz 40) + a1)).bind fun x1 =>
  if x1 = (iz 1) then
    some true
  else
    (nx_rd 514 f ((iz 40) + a1)).bind fun x2 =>
    if x2 = (iz 2) then
      some true
    else
      some false
set_option maxRecDepth 4000 in
theorem jW_isLive {Γ : nx_G} {M0 : nx_M} {w c : Nat} (hw : M0.1 w = some (.inr (6, [.ref c]))) (hc : w ≠ c) (u : Nat) (f : (Nat → Int32)) (a1 : Int32)   (X : nx_X) (Z : nx_Z) : nx_J Γ X (RX6, cX6_isLive, 2, (some .boolean), "isLive", 1) Z (fun r0 : Bool => .inr (some (.int (bz r0)), (wW Γ M0 c f))) (.inl (0, [some (.ref w), some (.int a1)], [], (wW Γ M0 c f))) (fW_isLive u f a1) := by
  unfold fW_isLive
  refine nx_aload_n rfl dX6_isLive_0 rfl ?_
  refine nx_getf fl_6_11 ((nx_put_ne hc).trans hw) rfl dX6_isLive_1 rfl ?_
  refine nx_bipush (by decide +kernel) dX6_isLive_4 rfl ?_
  refine nx_iload_n rfl dX6_isLive_6 rfl ?_
  refine nx_iadd dX6_isLive_7 rfl ?_
  refine nx_iald nx_put_self dX6_isLive_8 rfl (fun x1 => ?_)
  refine nx_iconst dX6_isLive_9 rfl ?_
  refine nx_icmp_eq (t := 26) dX6_isLive_10 (by decide) rfl ?_ ?_
  · refine nx_iconst dX6_isLive_26 rfl ?_
    refine nx_goto (q := 31) dX6_isLive_27 (by decide) ?_
    exact nx_zret (b := true) dX6_isLive_31 rfl rfl
  · refine nx_aload_n rfl dX6_isLive_13 rfl ?_
    refine nx_getf fl_6_11 ((nx_put_ne hc).trans hw) rfl dX6_isLive_14 rfl ?_
    refine nx_bipush (by decide +kernel) dX6_isLive_17 rfl ?_
    refine nx_iload_n rfl dX6_isLive_19 rfl ?_
    refine nx_iadd dX6_isLive_20 rfl ?_
    refine nx_iald nx_put_self dX6_isLive_21 rfl (fun x2 => ?_)
    refine nx_iconst dX6_isLive_22 rfl ?_
    refine nx_icmp_ne (t := 30) dX6_isLive_23 (by decide) rfl ?_ ?_
    · refine nx_iconst dX6_isLive_30 rfl ?_
      exact nx_zret (b := false) dX6_isLive_31 rfl rfl
    · refine nx_iconst dX6_isLive_26 rfl ?_
      refine nx_goto (q := 31) dX6_isLive_27 (by decide) ?_
      exact nx_zret (b := true) dX6_isLive_31 rfl rfl
theorem cW_isLive (l : Launch) {Γ : nx_G} {M0 : nx_M} {w c : Nat} (hw : M0.1 w = some (.inr (6, [.ref c]))) (hc : w ≠ c) {u : Nat} {f : (Nat → Int32)} {a1 : Int32} {r : Bool}  (h : fW_isLive u f a1 = some r) : nx_Ct l Γ 1 yX6_isLive cX6_isLive 2 (some .boolean) [.ref w, .int a1] (wW Γ M0 c f) (some (.int (bz r)), (wW Γ M0 c f)) :=
  nx_ct (out := fun r0 : Bool => (some (.int (bz r0)), (wW Γ M0 c f))) [some (.ref w), some (.int a1)] pn_RX6 h (Nat.le_of_ble_eq_true rfl) rfl (fun X Z _ => jW_isLive hw hc u f a1 X Z)
theorem dX6_lastRead_0 : decode cX6_lastRead 0 = .ok (.aload_n 0, 1) := by decide +kernel
theorem dX6_lastRead_1 : decode cX6_lastRead 1 = .ok (.getfield 11, 3) := by decide +kernel
theorem dX6_lastRead_4 : decode cX6_lastRead 4 = .ok (.sipush 184, 3) := by decide +kernel
theorem dX6_lastRead_7 : decode cX6_lastRead 7 = .ok (.iload_n 1, 1) := by decide +kernel
theorem dX6_lastRead_8 : decode cX6_lastRead 8 = .ok (.bipush 6, 2) := by decide +kernel
theorem dX6_lastRead_10 : decode cX6_lastRead 10 = .ok (.imul, 1) := by decide +kernel
theorem dX6_lastRead_11 : decode cX6_lastRead 11 = .ok (.iadd, 1) := by decide +kernel
theorem dX6_lastRead_12 : decode cX6_lastRead 12 = .ok (.iload_n 2, 1) := by decide +kernel
theorem dX6_lastRead_13 : decode cX6_lastRead 13 = .ok (.iadd, 1) := by decide +kernel
theorem dX6_lastRead_14 : decode cX6_lastRead 14 = .ok (.iaload, 1) := by decide +kernel
theorem dX6_lastRead_15 : decode cX6_lastRead 15 = .ok (.ireturn, 1) := by decide +kernel
def fW_lastRead (u : Nat) (f : (Nat → Int32)) (a1 : Int32) (a2 : Int32) : Option (Int32) :=
  (nx_rd 514 f (((iz 184) + (a1 * (iz 6))) + a2)).bind fun x1 =>
  some x1
set_option maxRecDepth 4000 in
theorem jW_lastRead {Γ : nx_G} {M0 : nx_M} {w c : Nat} (hw : M0.1 w = some (.inr (6, [.ref c]))) (hc : w ≠ c) (u : Nat) (f : (Nat → Int32)) (a1 : Int32) (a2 : Int32)   (X : nx_X) (Z : nx_Z) : nx_J Γ X (RX6, cX6_lastRead, 3, (some .int), "lastRead", 1) Z (fun r0 : Int32 => .inr (some (.int r0), (wW Γ M0 c f))) (.inl (0, [some (.ref w), some (.int a1), some (.int a2)], [], (wW Γ M0 c f))) (fW_lastRead u f a1 a2) := by
  unfold fW_lastRead
  refine nx_aload_n rfl dX6_lastRead_0 rfl ?_
  refine nx_getf fl_6_11 ((nx_put_ne hc).trans hw) rfl dX6_lastRead_1 rfl ?_
  refine nx_sipush (by decide +kernel) dX6_lastRead_4 rfl ?_
  refine nx_iload_n rfl dX6_lastRead_7 rfl ?_
  refine nx_bipush (by decide +kernel) dX6_lastRead_8 rfl ?_
  refine nx_imul dX6_lastRead_10 rfl ?_
  refine nx_iadd dX6_lastRead_11 rfl ?_
  refine nx_iload_n rfl dX6_lastRead_12 rfl ?_
  refine nx_iadd dX6_lastRead_13 rfl ?_
  refine nx_iald nx_put_self dX6_lastRead_14 rfl (fun x1 => ?_)
  exact nx_iret dX6_lastRead_15 rfl rfl
theorem cW_lastRead (l : Launch) {Γ : nx_G} {M0 : nx_M} {w c : Nat} (hw : M0.1 w = some (.inr (6, [.ref c]))) (hc : w ≠ c) {u : Nat} {f : (Nat → Int32)} {a1 : Int32} {a2 : Int32} {r : Int32}  (h : fW_lastRead u f a1 a2 = some r) : nx_Ct l Γ 1 yX6_lastRead cX6_lastRead 3 (some .int) [.ref w, .int a1, .int a2] (wW Γ M0 c f) (some (.int r), (wW Γ M0 c f)) :=
  nx_ct (out := fun r0 : Int32 => (some (.int r0), (wW Γ M0 c f))) [some (.ref w), some (.int a1), some (.int a2)] pn_RX6 h (Nat.le_of_ble_eq_true rfl) rfl (fun X Z _ => jW_lastRead hw hc u f a1 a2 X Z)
theorem dX6_deedsOf_0 : decode cX6_deedsOf 0 = .ok (.aload_n 0, 1) := by decide +kernel
theorem dX6_deedsOf_1 : decode cX6_deedsOf 1 = .ok (.getfield 11, 3) := by decide +kernel
theorem dX6_deedsOf_4 : decode cX6_deedsOf 4 = .ok (.bipush 80, 2) := by decide +kernel
theorem dX6_deedsOf_6 : decode cX6_deedsOf 6 = .ok (.iload_n 1, 1) := by decide +kernel
theorem dX6_deedsOf_7 : decode cX6_deedsOf 7 = .ok (.iadd, 1) := by decide +kernel
theorem dX6_deedsOf_8 : decode cX6_deedsOf 8 = .ok (.iaload, 1) := by decide +kernel
theorem dX6_deedsOf_9 : decode cX6_deedsOf 9 = .ok (.ireturn, 1) := by decide +kernel
def fW_deedsOf (u : Nat) (f : (Nat → Int32)) (a1 : Int32) : Option (Int32) :=
  (nx_rd 514 f ((iz 80) + a1)).bind fun x1 =>
  some x1
set_option maxRecDepth 4000 in
theorem jW_deedsOf {Γ : nx_G} {M0 : nx_M} {w c : Nat} (hw : M0.1 w = some (.inr (6, [.ref c]))) (hc : w ≠ c) (u : Nat) (f : (Nat → Int32)) (a1 : Int32)   (X : nx_X) (Z : nx_Z) : nx_J Γ X (RX6, cX6_deedsOf, 2, (some .int), "deedsOf", 1) Z (fun r0 : Int32 => .inr (some (.int r0), (wW Γ M0 c f))) (.inl (0, [some (.ref w), some (.int a1)], [], (wW Γ M0 c f))) (fW_deedsOf u f a1) := by
  unfold fW_deedsOf
  refine nx_aload_n rfl dX6_deedsOf_0 rfl ?_
  refine nx_getf fl_6_11 ((nx_put_ne hc).trans hw) rfl dX6_deedsOf_1 rfl ?_
  refine nx_bipush (by decide +kernel) dX6_deedsOf_4 rfl ?_
  refine nx_iload_n rfl dX6_deedsOf_6 rfl ?_
  refine nx_iadd dX6_deedsOf_7 rfl ?_
  refine nx_iald nx_put_self dX6_deedsOf_8 rfl (fun x1 => ?_)
  exact nx_iret dX6_deedsOf_9 rfl rfl
theorem cW_deedsOf (l : Launch) {Γ : nx_G} {M0 : nx_M} {w c : Nat} (hw : M0.1 w = some (.inr (6, [.ref c]))) (hc : w ≠ c) {u : Nat} {f : (Nat → Int32)} {a1 : Int32} {r : Int32}  (h : fW_deedsOf u f a1 = some r) : nx_Ct l Γ 1 yX6_deedsOf cX6_deedsOf 2 (some .int) [.ref w, .int a1] (wW Γ M0 c f) (some (.int r), (wW Γ M0 c f)) :=
  nx_ct (out := fun r0 : Int32 => (some (.int r0), (wW Γ M0 c f))) [some (.ref w), some (.int a1)] pn_RX6 h (Nat.le_of_ble_eq_true rfl) rfl (fun X Z _ => jW_deedsOf hw hc u f a1 X Z)
theorem dX6_deedPart_0 : decode cX6_deedPart 0 = .ok (.aload_n 0, 1) := by decide +kernel
theorem dX6_deedPart_1 : decode cX6_deedPart 1 = .ok (.getfield 11, 3) := by decide +kernel
theorem dX6_deedPart_4 : decode cX6_deedPart 4 = .ok (.bipush 88, 2) := by decide +kernel
theorem dX6_deedPart_6 : decode cX6_deedPart 6 = .ok (.iload_n 1, 1) := by decide +kernel
theorem dX6_deedPart_7 : decode cX6_deedPart 7 = .ok (.bipush 12, 2) := by decide +kernel
theorem dX6_deedPart_9 : decode cX6_deedPart 9 = .ok (.imul, 1) := by decide +kernel
theorem dX6_deedPart_10 : decode cX6_deedPart 10 = .ok (.iadd, 1) := by decide +kernel
theorem dX6_deedPart_11 : decode cX6_deedPart 11 = .ok (.iload_n 2, 1) := by decide +kernel
theorem dX6_deedPart_12 : decode cX6_deedPart 12 = .ok (.iadd, 1) := by decide +kernel
theorem dX6_deedPart_13 : decode cX6_deedPart 13 = .ok (.iaload, 1) := by decide +kernel
theorem dX6_deedPart_14 : decode cX6_deedPart 14 = .ok (.istore 4, 2) := by decide +kernel
theorem dX6_deedPart_16 : decode cX6_deedPart 16 = .ok (.iload_n 3, 1) := by decide +kernel
theorem dX6_deedPart_17 : decode cX6_deedPart 17 = .ok (.ifCond .ne 8, 3) := by decide +kernel
theorem dX6_deedPart_20 : decode cX6_deedPart 20 = .ok (.iload 4, 2) := by decide +kernel
theorem dX6_deedPart_22 : decode cX6_deedPart 22 = .ok (.iconst 3, 1) := by decide +kernel
theorem dX6_deedPart_23 : decode cX6_deedPart 23 = .ok (.iand, 1) := by decide +kernel
theorem dX6_deedPart_24 : decode cX6_deedPart 24 = .ok (.ireturn, 1) := by decide +kernel
theorem dX6_deedPart_25 : decode cX6_deedPart 25 = .ok (.iload_n 3, 1) := by decide +kernel
theorem dX6_deedPart_26 : decode cX6_deedPart 26 = .ok (.iconst 1, 1) := by decide +kernel
theorem dX6_deedPart_27 : decode cX6_deedPart 27 = .ok (.if_icmp .ne 13, 3) := by decide +kernel
theorem dX6_deedPart_30 : decode cX6_deedPart 30 = .ok (.iload 4, 2) := by decide +kernel
theorem dX6_deedPart_32 : decode cX6_deedPart 32 = .ok (.iconst 2, 1) := by decide +kernel
theorem dX6_deedPart_33 : decode cX6_deedPart 33 = .ok (.ishr, 1) := by decide +kernel
theorem dX6_deedPart_34 : decode cX6_deedPart 34 = .ok (.bipush 7, 2) := by decide +kernel
theorem dX6_deedPart_36 : decode cX6_deedPart 36 = .ok (.iand, 1) := by decide +kernel
theorem dX6_deedPart_37 : decode cX6_deedPart 37 = .ok (.goto 9, 3) := by decide +kernel
theorem dX6_deedPart_40 : decode cX6_deedPart 40 = .ok (.iload 4, 2) := by decide +kernel
theorem dX6_deedPart_42 : decode cX6_deedPart 42 = .ok (.iconst 5, 1) := by decide +kernel
theorem dX6_deedPart_43 : decode cX6_deedPart 43 = .ok (.ishr, 1) := by decide +kernel
theorem dX6_deedPart_44 : decode cX6_deedPart 44 = .ok (.iconst 1, 1) := by decide +kernel
theorem dX6_deedPart_45 : decode cX6_deedPart 45 = .ok (.isub, 1) := by decide +kernel
theorem dX6_deedPart_46 : decode cX6_deedPart 46 = .ok (.ireturn, 1) := by decide +kernel
def fW_deedPart (u : Nat) (f : (Nat → Int32)) (a1 : Int32) (a2 : Int32) (a3 : Int32) : Option (Int32) :=
  (nx_rd 514 f (((iz 88) + (a1 * (iz 12))) + a2)).bind fun x1 =>
  if a3 = iz 0 then
    some (x1 &&& (iz 3))
  else
    if a3 = (iz 1) then
      some ((x1 >>> ((iz 2) &&& 31)) &&& (iz 7))
    else
      some ((x1 >>> ((iz 5) &&& 31)) - (iz 1))
set_option maxRecDepth 4000 in
theorem jW_deedPart {Γ : nx_G} {M0 : nx_M} {w c : Nat} (hw : M0.1 w = some (.inr (6, [.ref c]))) (hc : w ≠ c) (u : Nat) (f : (Nat → Int32)) (a1 : Int32) (a2 : Int32) (a3 : Int32)   (X : nx_X) (Z : nx_Z) : nx_J Γ X (RX6, cX6_deedPart, 5, (some .int), "deedPart", 1) Z (fun r0 : Int32 => .inr (some (.int r0), (wW Γ M0 c f))) (.inl (0, [some (.ref w), some (.int a1), some (.int a2), some (.int a3), none], [], (wW Γ M0 c f))) (fW_deedPart u f a1 a2 a3) := by
  unfold fW_deedPart
  refine nx_aload_n rfl dX6_deedPart_0 rfl ?_
  refine nx_getf fl_6_11 ((nx_put_ne hc).trans hw) rfl dX6_deedPart_1 rfl ?_
  refine nx_bipush (by decide +kernel) dX6_deedPart_4 rfl ?_
  refine nx_iload_n rfl dX6_deedPart_6 rfl ?_
  refine nx_bipush (by decide +kernel) dX6_deedPart_7 rfl ?_
  refine nx_imul dX6_deedPart_9 rfl ?_
  refine nx_iadd dX6_deedPart_10 rfl ?_
  refine nx_iload_n rfl dX6_deedPart_11 rfl ?_
  refine nx_iadd dX6_deedPart_12 rfl ?_
  refine nx_iald nx_put_self dX6_deedPart_13 rfl (fun x1 => ?_)
  refine nx_istore [some (.ref w), some (.int a1), some (.int a2), some (.int a3), some (.int x1)] dX6_deedPart_14 rfl (Nat.le_of_ble_eq_true rfl) rfl rfl ?_
  refine nx_iload_n rfl dX6_deedPart_16 rfl ?_
  refine nx_if_ne (t := 25) dX6_deedPart_17 (by decide) rfl ?_ ?_
  · refine nx_iload_n rfl dX6_deedPart_25 rfl ?_
    refine nx_iconst dX6_deedPart_26 rfl ?_
    refine nx_icmp_ne (t := 40) dX6_deedPart_27 (by decide) rfl ?_ ?_
    · refine nx_iload rfl dX6_deedPart_40 rfl ?_
      refine nx_iconst dX6_deedPart_42 rfl ?_
      refine nx_ishr dX6_deedPart_43 rfl ?_
      refine nx_iconst dX6_deedPart_44 rfl ?_
      refine nx_isub dX6_deedPart_45 rfl ?_
      exact nx_iret dX6_deedPart_46 rfl rfl
    · refine nx_iload rfl dX6_deedPart_30 rfl ?_
      refine nx_iconst dX6_deedPart_32 rfl ?_
      refine nx_ishr dX6_deedPart_33 rfl ?_
      refine nx_bipush (by decide +kernel) dX6_deedPart_34 rfl ?_
      refine nx_iand dX6_deedPart_36 rfl ?_
      refine nx_goto (q := 46) dX6_deedPart_37 (by decide) ?_
      exact nx_iret dX6_deedPart_46 rfl rfl
  · refine nx_iload rfl dX6_deedPart_20 rfl ?_
    refine nx_iconst dX6_deedPart_22 rfl ?_
    refine nx_iand dX6_deedPart_23 rfl ?_
    exact nx_iret dX6_deedPart_24 rfl rfl
theorem cW_deedPart (l : Launch) {Γ : nx_G} {M0 : nx_M} {w c : Nat} (hw : M0.1 w = some (.inr (6, [.ref c]))) (hc : w ≠ c) {u : Nat} {f : (Nat → Int32)} {a1 : Int32} {a2 : Int32} {a3 : Int32} {r : Int32}  (h : fW_deedPart u f a1 a2 a3 = some r) : nx_Ct l Γ 1 yX6_deedPart cX6_deedPart 5 (some .int) [.ref w, .int a1, .int a2, .int a3] (wW Γ M0 c f) (some (.int r), (wW Γ M0 c f)) :=
  nx_ct (out := fun r0 : Int32 => (some (.int r0), (wW Γ M0 c f))) [some (.ref w), some (.int a1), some (.int a2), some (.int a3), none] pn_RX6 h (Nat.le_of_ble_eq_true rfl) rfl (fun X Z _ => jW_deedPart hw hc u f a1 a2 a3 X Z)
theorem dX6_versionsOf_0 : decode cX6_versionsOf 0 = .ok (.aload_n 0, 1) := by decide +kernel
theorem dX6_versionsOf_1 : decode cX6_versionsOf 1 = .ok (.getfield 11, 3) := by decide +kernel
theorem dX6_versionsOf_4 : decode cX6_versionsOf 4 = .ok (.sipush 232, 3) := by decide +kernel
theorem dX6_versionsOf_7 : decode cX6_versionsOf 7 = .ok (.iload_n 1, 1) := by decide +kernel
theorem dX6_versionsOf_8 : decode cX6_versionsOf 8 = .ok (.iadd, 1) := by decide +kernel
theorem dX6_versionsOf_9 : decode cX6_versionsOf 9 = .ok (.iaload, 1) := by decide +kernel
theorem dX6_versionsOf_10 : decode cX6_versionsOf 10 = .ok (.ireturn, 1) := by decide +kernel
def fW_versionsOf (u : Nat) (f : (Nat → Int32)) (a1 : Int32) : Option (Int32) :=
  (nx_rd 514 f ((iz 232) + a1)).bind fun x1 =>
  some x1
set_option maxRecDepth 4000 in
theorem jW_versionsOf {Γ : nx_G} {M0 : nx_M} {w c : Nat} (hw : M0.1 w = some (.inr (6, [.ref c]))) (hc : w ≠ c) (u : Nat) (f : (Nat → Int32)) (a1 : Int32)   (X : nx_X) (Z : nx_Z) : nx_J Γ X (RX6, cX6_versionsOf, 2, (some .int), "versionsOf", 1) Z (fun r0 : Int32 => .inr (some (.int r0), (wW Γ M0 c f))) (.inl (0, [some (.ref w), some (.int a1)], [], (wW Γ M0 c f))) (fW_versionsOf u f a1) := by
  unfold fW_versionsOf
  refine nx_aload_n rfl dX6_versionsOf_0 rfl ?_
  refine nx_getf fl_6_11 ((nx_put_ne hc).trans hw) rfl dX6_versionsOf_1 rfl ?_
  refine nx_sipush (by decide +kernel) dX6_versionsOf_4 rfl ?_
  refine nx_iload_n rfl dX6_versionsOf_7 rfl ?_
  refine nx_iadd dX6_versionsOf_8 rfl ?_
  refine nx_iald nx_put_self dX6_versionsOf_9 rfl (fun x1 => ?_)
  exact nx_iret dX6_versionsOf_10 rfl rfl
theorem cW_versionsOf (l : Launch) {Γ : nx_G} {M0 : nx_M} {w c : Nat} (hw : M0.1 w = some (.inr (6, [.ref c]))) (hc : w ≠ c) {u : Nat} {f : (Nat → Int32)} {a1 : Int32} {r : Int32}  (h : fW_versionsOf u f a1 = some r) : nx_Ct l Γ 1 yX6_versionsOf cX6_versionsOf 2 (some .int) [.ref w, .int a1] (wW Γ M0 c f) (some (.int r), (wW Γ M0 c f)) :=
  nx_ct (out := fun r0 : Int32 => (some (.int r0), (wW Γ M0 c f))) [some (.ref w), some (.int a1)] pn_RX6 h (Nat.le_of_ble_eq_true rfl) rfl (fun X Z _ => jW_versionsOf hw hc u f a1 X Z)
theorem dX6_versionsOfAll_0 : decode cX6_versionsOfAll 0 = .ok (.iconst 0, 1) := by decide +kernel
theorem dX6_versionsOfAll_1 : decode cX6_versionsOfAll 1 = .ok (.istore_n 1, 1) := by decide +kernel
theorem dX6_versionsOfAll_2 : decode cX6_versionsOfAll 2 = .ok (.iconst 0, 1) := by decide +kernel
theorem dX6_versionsOfAll_3 : decode cX6_versionsOfAll 3 = .ok (.istore_n 2, 1) := by decide +kernel
theorem dX6_versionsOfAll_4 : decode cX6_versionsOfAll 4 = .ok (.iload_n 2, 1) := by decide +kernel
theorem dX6_versionsOfAll_5 : decode cX6_versionsOfAll 5 = .ok (.bipush 6, 2) := by decide +kernel
theorem dX6_versionsOfAll_7 : decode cX6_versionsOfAll 7 = .ok (.if_icmp .ge 22, 3) := by decide +kernel
theorem dX6_versionsOfAll_10 : decode cX6_versionsOfAll 10 = .ok (.iload_n 1, 1) := by decide +kernel
theorem dX6_versionsOfAll_11 : decode cX6_versionsOfAll 11 = .ok (.aload_n 0, 1) := by decide +kernel
theorem dX6_versionsOfAll_12 : decode cX6_versionsOfAll 12 = .ok (.getfield 11, 3) := by decide +kernel
theorem dX6_versionsOfAll_15 : decode cX6_versionsOfAll 15 = .ok (.sipush 232, 3) := by decide +kernel
theorem dX6_versionsOfAll_18 : decode cX6_versionsOfAll 18 = .ok (.iload_n 2, 1) := by decide +kernel
theorem dX6_versionsOfAll_19 : decode cX6_versionsOfAll 19 = .ok (.iadd, 1) := by decide +kernel
theorem dX6_versionsOfAll_20 : decode cX6_versionsOfAll 20 = .ok (.iaload, 1) := by decide +kernel
theorem dX6_versionsOfAll_21 : decode cX6_versionsOfAll 21 = .ok (.iadd, 1) := by decide +kernel
theorem dX6_versionsOfAll_22 : decode cX6_versionsOfAll 22 = .ok (.istore_n 1, 1) := by decide +kernel
theorem dX6_versionsOfAll_23 : decode cX6_versionsOfAll 23 = .ok (.iinc 2 1, 3) := by decide +kernel
theorem dX6_versionsOfAll_26 : decode cX6_versionsOfAll 26 = .ok (.goto (-22), 3) := by decide +kernel
theorem dX6_versionsOfAll_29 : decode cX6_versionsOfAll 29 = .ok (.iload_n 1, 1) := by decide +kernel
theorem dX6_versionsOfAll_30 : decode cX6_versionsOfAll 30 = .ok (.ireturn, 1) := by decide +kernel
def fW_versionsOfAll_4 (f : (Nat → Int32)) (s1 : Int32 × Int32) : Option ((Int32 × Int32) ⊕ (Int32)) :=
  if (iz 6) ≤ s1.2 then
    some (.inr s1.1)
  else
    (nx_rd 514 f ((iz 232) + s1.2)).bind fun x2 =>
    some (.inl ((s1.1 + x2), (s1.2 + iz 1)))
def fW_versionsOfAll (u : Nat) (f : (Nat → Int32)) : Option (Int32) :=
  (nx_iter u (fW_versionsOfAll_4 f) ((iz 0), (iz 0))).bind fun e3 =>
  some e3
set_option maxRecDepth 4000 in
theorem jW_versionsOfAll_4 {Γ : nx_G} {M0 : nx_M} {w c : Nat} (hw : M0.1 w = some (.inr (6, [.ref c]))) (hc : w ≠ c) (f : (Nat → Int32))   (X : nx_X) (Z : nx_Z) (s1 : Int32 × Int32) : nx_J Γ X (RX6, cX6_versionsOfAll, 3, (some .int), "versionsOfAll", 1) Z (Sum.elim (fun s1 : Int32 × Int32 => .inl (4, [some (.ref w), some (.int s1.1), some (.int s1.2)], [], (wW Γ M0 c f))) (fun e3 : Int32 => .inl (29, [some (.ref w), some (.int e3), none], [], (wW Γ M0 c f)))) (.inl (4, [some (.ref w), some (.int s1.1), some (.int s1.2)], [], (wW Γ M0 c f))) (fW_versionsOfAll_4 f s1) := by
  unfold fW_versionsOfAll_4
  refine nx_iload_n rfl dX6_versionsOfAll_4 rfl ?_
  refine nx_bipush (by decide +kernel) dX6_versionsOfAll_5 rfl ?_
  refine nx_icmp_ge (t := 29) dX6_versionsOfAll_7 (by decide) rfl ?_ ?_
  · refine nx_weak (ls' := [some (.ref w), some (.int s1.1), none]) (nx_wk_s (nx_wk_s (nx_wk_n nx_wk_e))) ?_
    obtain ⟨_, _⟩ := s1
    exact nx_leaf rfl
  · refine nx_iload_n rfl dX6_versionsOfAll_10 rfl ?_
    refine nx_aload_n rfl dX6_versionsOfAll_11 rfl ?_
    refine nx_getf fl_6_11 ((nx_put_ne hc).trans hw) rfl dX6_versionsOfAll_12 rfl ?_
    refine nx_sipush (by decide +kernel) dX6_versionsOfAll_15 rfl ?_
    refine nx_iload_n rfl dX6_versionsOfAll_18 rfl ?_
    refine nx_iadd dX6_versionsOfAll_19 rfl ?_
    refine nx_iald nx_put_self dX6_versionsOfAll_20 rfl (fun x2 => ?_)
    refine nx_iadd dX6_versionsOfAll_21 rfl ?_
    refine nx_istore_n [some (.ref w), some (.int (s1.1 + x2)), some (.int s1.2)] dX6_versionsOfAll_22 rfl (Nat.le_of_ble_eq_true rfl) rfl rfl ?_
    refine nx_iinc [some (.ref w), some (.int (s1.1 + x2)), some (.int (s1.2 + iz 1))] dX6_versionsOfAll_23 rfl rfl (Nat.le_of_ble_eq_true rfl) rfl rfl ?_
    refine nx_goto (q := 4) dX6_versionsOfAll_26 (by decide) ?_
    obtain ⟨_, _⟩ := s1
    exact nx_leaf rfl
set_option maxRecDepth 4000 in
theorem jW_versionsOfAll {Γ : nx_G} {M0 : nx_M} {w c : Nat} (hw : M0.1 w = some (.inr (6, [.ref c]))) (hc : w ≠ c) (u : Nat) (f : (Nat → Int32))   (X : nx_X) (Z : nx_Z) : nx_J Γ X (RX6, cX6_versionsOfAll, 3, (some .int), "versionsOfAll", 1) Z (fun r0 : Int32 => .inr (some (.int r0), (wW Γ M0 c f))) (.inl (0, [some (.ref w), none, none], [], (wW Γ M0 c f))) (fW_versionsOfAll u f) := by
  unfold fW_versionsOfAll
  refine nx_iconst dX6_versionsOfAll_0 rfl ?_
  refine nx_istore_n [some (.ref w), some (.int (iz 0)), none] dX6_versionsOfAll_1 rfl (Nat.le_of_ble_eq_true rfl) rfl rfl ?_
  refine nx_iconst dX6_versionsOfAll_2 rfl ?_
  refine nx_istore_n [some (.ref w), some (.int (iz 0)), some (.int (iz 0))] dX6_versionsOfAll_3 rfl (Nat.le_of_ble_eq_true rfl) rfl rfl ?_
  refine nx_seq (C1 := fun e3 : Int32 => .inl (29, [some (.ref w), some (.int e3), none], [], (wW Γ M0 c f))) (nx_loop (C1 := fun s1 : Int32 × Int32 => .inl (4, [some (.ref w), some (.int s1.1), some (.int s1.2)], [], (wW Γ M0 c f))) (fun s1 => jW_versionsOfAll_4 hw hc f X Z s1) ((iz 0), (iz 0))) (fun e3 => ?_)
  refine nx_iload_n rfl dX6_versionsOfAll_29 rfl ?_
  exact nx_iret dX6_versionsOfAll_30 rfl rfl
theorem cW_versionsOfAll (l : Launch) {Γ : nx_G} {M0 : nx_M} {w c : Nat} (hw : M0.1 w = some (.inr (6, [.ref c]))) (hc : w ≠ c) {u : Nat} {f : (Nat → Int32)} {r : Int32}  (h : fW_versionsOfAll u f = some r) : nx_Ct l Γ 1 yX6_versionsOfAll cX6_versionsOfAll 3 (some .int) [.ref w] (wW Γ M0 c f) (some (.int r), (wW Γ M0 c f)) :=
  nx_ct (out := fun r0 : Int32 => (some (.int r0), (wW Γ M0 c f))) [some (.ref w), none, none] pn_RX6 h (Nat.le_of_ble_eq_true rfl) rfl (fun X Z _ => jW_versionsOfAll hw hc u f X Z)
theorem dX6_versionPart_0 : decode cX6_versionPart 0 = .ok (.aload_n 0, 1) := by decide +kernel
theorem dX6_versionPart_1 : decode cX6_versionPart 1 = .ok (.getfield 11, 3) := by decide +kernel
theorem dX6_versionPart_4 : decode cX6_versionPart 4 = .ok (.sipush 238, 3) := by decide +kernel
theorem dX6_versionPart_7 : decode cX6_versionPart 7 = .ok (.iload_n 3, 1) := by decide +kernel
theorem dX6_versionPart_8 : decode cX6_versionPart 8 = .ok (.bipush 54, 2) := by decide +kernel
theorem dX6_versionPart_10 : decode cX6_versionPart 10 = .ok (.imul, 1) := by decide +kernel
theorem dX6_versionPart_11 : decode cX6_versionPart 11 = .ok (.iadd, 1) := by decide +kernel
theorem dX6_versionPart_12 : decode cX6_versionPart 12 = .ok (.iload_n 1, 1) := by decide +kernel
theorem dX6_versionPart_13 : decode cX6_versionPart 13 = .ok (.bipush 9, 2) := by decide +kernel
theorem dX6_versionPart_15 : decode cX6_versionPart 15 = .ok (.imul, 1) := by decide +kernel
theorem dX6_versionPart_16 : decode cX6_versionPart 16 = .ok (.iadd, 1) := by decide +kernel
theorem dX6_versionPart_17 : decode cX6_versionPart 17 = .ok (.iload_n 2, 1) := by decide +kernel
theorem dX6_versionPart_18 : decode cX6_versionPart 18 = .ok (.iadd, 1) := by decide +kernel
theorem dX6_versionPart_19 : decode cX6_versionPart 19 = .ok (.iaload, 1) := by decide +kernel
theorem dX6_versionPart_20 : decode cX6_versionPart 20 = .ok (.ireturn, 1) := by decide +kernel
def fW_versionPart (u : Nat) (f : (Nat → Int32)) (a1 : Int32) (a2 : Int32) (a3 : Int32) : Option (Int32) :=
  (nx_rd 514 f ((((iz 238) + (a3 * (iz 54))) + (a1 * (iz 9))) + a2)).bind fun x1 =>
  some x1
set_option maxRecDepth 4000 in
theorem jW_versionPart {Γ : nx_G} {M0 : nx_M} {w c : Nat} (hw : M0.1 w = some (.inr (6, [.ref c]))) (hc : w ≠ c) (u : Nat) (f : (Nat → Int32)) (a1 : Int32) (a2 : Int32) (a3 : Int32)   (X : nx_X) (Z : nx_Z) : nx_J Γ X (RX6, cX6_versionPart, 4, (some .int), "versionPart", 1) Z (fun r0 : Int32 => .inr (some (.int r0), (wW Γ M0 c f))) (.inl (0, [some (.ref w), some (.int a1), some (.int a2), some (.int a3)], [], (wW Γ M0 c f))) (fW_versionPart u f a1 a2 a3) := by
  unfold fW_versionPart
  refine nx_aload_n rfl dX6_versionPart_0 rfl ?_
  refine nx_getf fl_6_11 ((nx_put_ne hc).trans hw) rfl dX6_versionPart_1 rfl ?_
  refine nx_sipush (by decide +kernel) dX6_versionPart_4 rfl ?_
  refine nx_iload_n rfl dX6_versionPart_7 rfl ?_
  refine nx_bipush (by decide +kernel) dX6_versionPart_8 rfl ?_
  refine nx_imul dX6_versionPart_10 rfl ?_
  refine nx_iadd dX6_versionPart_11 rfl ?_
  refine nx_iload_n rfl dX6_versionPart_12 rfl ?_
  refine nx_bipush (by decide +kernel) dX6_versionPart_13 rfl ?_
  refine nx_imul dX6_versionPart_15 rfl ?_
  refine nx_iadd dX6_versionPart_16 rfl ?_
  refine nx_iload_n rfl dX6_versionPart_17 rfl ?_
  refine nx_iadd dX6_versionPart_18 rfl ?_
  refine nx_iald nx_put_self dX6_versionPart_19 rfl (fun x1 => ?_)
  exact nx_iret dX6_versionPart_20 rfl rfl
theorem cW_versionPart (l : Launch) {Γ : nx_G} {M0 : nx_M} {w c : Nat} (hw : M0.1 w = some (.inr (6, [.ref c]))) (hc : w ≠ c) {u : Nat} {f : (Nat → Int32)} {a1 : Int32} {a2 : Int32} {a3 : Int32} {r : Int32}  (h : fW_versionPart u f a1 a2 a3 = some r) : nx_Ct l Γ 1 yX6_versionPart cX6_versionPart 4 (some .int) [.ref w, .int a1, .int a2, .int a3] (wW Γ M0 c f) (some (.int r), (wW Γ M0 c f)) :=
  nx_ct (out := fun r0 : Int32 => (some (.int r0), (wW Γ M0 c f))) [some (.ref w), some (.int a1), some (.int a2), some (.int a3)] pn_RX6 h (Nat.le_of_ble_eq_true rfl) rfl (fun X Z _ => jW_versionPart hw hc u f a1 a2 a3 X Z)
theorem dX6_isClockFull_0 : decode cX6_isClockFull 0 = .ok (.aload_n 0, 1) := by decide +kernel
theorem dX6_isClockFull_1 : decode cX6_isClockFull 1 = .ok (.getfield 11, 3) := by decide +kernel
theorem dX6_isClockFull_4 : decode cX6_isClockFull 4 = .ok (.iconst 4, 1) := by decide +kernel
theorem dX6_isClockFull_5 : decode cX6_isClockFull 5 = .ok (.iaload, 1) := by decide +kernel
theorem dX6_isClockFull_6 : decode cX6_isClockFull 6 = .ok (.aload_n 0, 1) := by decide +kernel
theorem dX6_isClockFull_7 : decode cX6_isClockFull 7 = .ok (.getfield 11, 3) := by decide +kernel
theorem dX6_isClockFull_10 : decode cX6_isClockFull 10 = .ok (.iconst 2, 1) := by decide +kernel
theorem dX6_isClockFull_11 : decode cX6_isClockFull 11 = .ok (.iaload, 1) := by decide +kernel
theorem dX6_isClockFull_12 : decode cX6_isClockFull 12 = .ok (.iadd, 1) := by decide +kernel
theorem dX6_isClockFull_13 : decode cX6_isClockFull 13 = .ok (.sipush 9999, 3) := by decide +kernel
theorem dX6_isClockFull_16 : decode cX6_isClockFull 16 = .ok (.if_icmp .le 7, 3) := by decide +kernel
theorem dX6_isClockFull_19 : decode cX6_isClockFull 19 = .ok (.iconst 1, 1) := by decide +kernel
theorem dX6_isClockFull_20 : decode cX6_isClockFull 20 = .ok (.goto 4, 3) := by decide +kernel
theorem dX6_isClockFull_23 : decode cX6_isClockFull 23 = .ok (.iconst 0, 1) := by decide +kernel
theorem dX6_isClockFull_24 : decode cX6_isClockFull 24 = .ok (.ireturn, 1) := by decide +kernel
def fW_isClockFull (u : Nat) (f : (Nat → Int32)) : Option (Bool) :=
  (nx_rd 514 f (iz 4)).bind fun x1 =>
  (nx_rd 514 f (iz 2)).bind fun x2 =>
  if (x1 + x2) ≤ (iz 9999) then
    some false
  else
    some true
set_option maxRecDepth 4000 in
theorem jW_isClockFull {Γ : nx_G} {M0 : nx_M} {w c : Nat} (hw : M0.1 w = some (.inr (6, [.ref c]))) (hc : w ≠ c) (u : Nat) (f : (Nat → Int32))   (X : nx_X) (Z : nx_Z) : nx_J Γ X (RX6, cX6_isClockFull, 1, (some .boolean), "isClockFull", 1) Z (fun r0 : Bool => .inr (some (.int (bz r0)), (wW Γ M0 c f))) (.inl (0, [some (.ref w)], [], (wW Γ M0 c f))) (fW_isClockFull u f) := by
  unfold fW_isClockFull
  refine nx_aload_n rfl dX6_isClockFull_0 rfl ?_
  refine nx_getf fl_6_11 ((nx_put_ne hc).trans hw) rfl dX6_isClockFull_1 rfl ?_
  refine nx_iconst dX6_isClockFull_4 rfl ?_
  refine nx_iald nx_put_self dX6_isClockFull_5 rfl (fun x1 => ?_)
  refine nx_aload_n rfl dX6_isClockFull_6 rfl ?_
  refine nx_getf fl_6_11 ((nx_put_ne hc).trans hw) rfl dX6_isClockFull_7 rfl ?_
  refine nx_iconst dX6_isClockFull_10 rfl ?_
  refine nx_iald nx_put_self dX6_isClockFull_11 rfl (fun x2 => ?_)
  refine nx_iadd dX6_isClockFull_12 rfl ?_
  refine nx_sipush (by decide +kernel) dX6_isClockFull_13 rfl ?_
  refine nx_icmp_le (t := 23) dX6_isClockFull_16 (by decide) rfl ?_ ?_
  · refine nx_iconst dX6_isClockFull_23 rfl ?_
    exact nx_zret (b := false) dX6_isClockFull_24 rfl rfl
  · refine nx_iconst dX6_isClockFull_19 rfl ?_
    refine nx_goto (q := 24) dX6_isClockFull_20 (by decide) ?_
    exact nx_zret (b := true) dX6_isClockFull_24 rfl rfl
theorem cW_isClockFull (l : Launch) {Γ : nx_G} {M0 : nx_M} {w c : Nat} (hw : M0.1 w = some (.inr (6, [.ref c]))) (hc : w ≠ c) {u : Nat} {f : (Nat → Int32)} {r : Bool}  (h : fW_isClockFull u f = some r) : nx_Ct l Γ 1 yX6_isClockFull cX6_isClockFull 1 (some .boolean) [.ref w] (wW Γ M0 c f) (some (.int (bz r)), (wW Γ M0 c f)) :=
  nx_ct (out := fun r0 : Bool => (some (.int (bz r0)), (wW Γ M0 c f))) [some (.ref w)] pn_RX6 h (Nat.le_of_ble_eq_true rfl) rfl (fun X Z _ => jW_isClockFull hw hc u f X Z)
theorem dX6_openRefusal_0 : decode cX6_openRefusal 0 = .ok (.iload_n 2, 1) := by decide +kernel
theorem dX6_openRefusal_1 : decode cX6_openRefusal 1 = .ok (.ifCond .eq 10, 3) := by decide +kernel
theorem dX6_openRefusal_4 : decode cX6_openRefusal 4 = .ok (.iload_n 2, 1) := by decide +kernel
theorem dX6_openRefusal_5 : decode cX6_openRefusal 5 = .ok (.iconst 1, 1) := by decide +kernel
theorem dX6_openRefusal_6 : decode cX6_openRefusal 6 = .ok (.if_icmp .eq 5, 3) := by decide +kernel
theorem dX6_openRefusal_9 : decode cX6_openRefusal 9 = .ok (.iconst 1, 1) := by decide +kernel
theorem dX6_openRefusal_10 : decode cX6_openRefusal 10 = .ok (.ireturn, 1) := by decide +kernel
theorem dX6_openRefusal_11 : decode cX6_openRefusal 11 = .ok (.aload_n 0, 1) := by decide +kernel
theorem dX6_openRefusal_12 : decode cX6_openRefusal 12 = .ok (.iload_n 1, 1) := by decide +kernel
theorem dX6_openRefusal_13 : decode cX6_openRefusal 13 = .ok (.invokevirtual 62, 3) := by decide +kernel
theorem dX6_openRefusal_16 : decode cX6_openRefusal 16 = .ok (.ifCond .eq 5, 3) := by decide +kernel
theorem dX6_openRefusal_19 : decode cX6_openRefusal 19 = .ok (.iconst 2, 1) := by decide +kernel
theorem dX6_openRefusal_20 : decode cX6_openRefusal 20 = .ok (.ireturn, 1) := by decide +kernel
theorem dX6_openRefusal_21 : decode cX6_openRefusal 21 = .ok (.aload_n 0, 1) := by decide +kernel
theorem dX6_openRefusal_22 : decode cX6_openRefusal 22 = .ok (.invokevirtual 66, 3) := by decide +kernel
theorem dX6_openRefusal_25 : decode cX6_openRefusal 25 = .ok (.ifCond .eq 7, 3) := by decide +kernel
theorem dX6_openRefusal_28 : decode cX6_openRefusal 28 = .ok (.iconst 3, 1) := by decide +kernel
theorem dX6_openRefusal_29 : decode cX6_openRefusal 29 = .ok (.goto 4, 3) := by decide +kernel
theorem dX6_openRefusal_32 : decode cX6_openRefusal 32 = .ok (.iconst (-1), 1) := by decide +kernel
theorem dX6_openRefusal_33 : decode cX6_openRefusal 33 = .ok (.ireturn, 1) := by decide +kernel
def fW_openRefusal (u : Nat) (f : (Nat → Int32)) (a1 : Int32) (a2 : Int32) : Option (Int32) :=
  if a2 = iz 0 then
    (fW_isLive u f a1).bind fun b1 =>
    if b1 = true then
      some (iz 2)
    else
      (fW_isClockFull u f).bind fun b2 =>
      if b2 = true then
        some (iz 3)
      else
        some (iz (-1))
  else
    if a2 = (iz 1) then
      (fW_isLive u f a1).bind fun b3 =>
      if b3 = true then
        some (iz 2)
      else
        (fW_isClockFull u f).bind fun b4 =>
        if b4 = true then
          some (iz 3)
        else
          some (iz (-1))
    else
      some (iz 1)
set_option maxRecDepth 4000 in
theorem jW_openRefusal {Γ : nx_G} {M0 : nx_M} {w c : Nat} (hw : M0.1 w = some (.inr (6, [.ref c]))) (hc : w ≠ c) (u : Nat) (f : (Nat → Int32)) (a1 : Int32) (a2 : Int32)   (X : nx_X) (Z : nx_Z) : nx_J Γ X (RX6, cX6_openRefusal, 3, (some .int), "openRefusal", 2) Z (fun r0 : Int32 => .inr (some (.int r0), (wW Γ M0 c f))) (.inl (0, [some (.ref w), some (.int a1), some (.int a2)], [], (wW Γ M0 c f))) (fW_openRefusal u f a1 a2) := by
  unfold fW_openRefusal
  refine nx_iload_n rfl dX6_openRefusal_0 rfl ?_
  refine nx_if_eq (t := 11) dX6_openRefusal_1 (by decide) rfl ?_ ?_
  · refine nx_aload_n rfl dX6_openRefusal_11 rfl ?_
    refine nx_iload_n rfl dX6_openRefusal_12 rfl ?_
    refine nx_callVr [.int a1] (fun r => .int (bz r)) (fun _ => (wW Γ M0 c f)) cw_6_62 cv_X6_isLive (fun r e => cW_isLive X.2.1 hw hc e) ((nx_put_ne hc).trans hw) rfl rfl (Nat.le_of_ble_eq_true rfl) (Nat.le_of_ble_eq_true rfl) dX6_openRefusal_13 rfl (fun b1 => ?_)
    refine nx_ifz_eq (t := 21) dX6_openRefusal_16 (by decide) rfl ?_ ?_
    · refine nx_aload_n rfl dX6_openRefusal_21 rfl ?_
      refine nx_callVr [] (fun r => .int (bz r)) (fun _ => (wW Γ M0 c f)) cw_6_66 cv_X6_isClockFull (fun r e => cW_isClockFull X.2.1 hw hc e) ((nx_put_ne hc).trans hw) rfl rfl (Nat.le_of_ble_eq_true rfl) (Nat.le_of_ble_eq_true rfl) dX6_openRefusal_22 rfl (fun b2 => ?_)
      refine nx_ifz_eq (t := 32) dX6_openRefusal_25 (by decide) rfl ?_ ?_
      · refine nx_iconst dX6_openRefusal_32 rfl ?_
        exact nx_iret dX6_openRefusal_33 rfl rfl
      · refine nx_iconst dX6_openRefusal_28 rfl ?_
        refine nx_goto (q := 33) dX6_openRefusal_29 (by decide) ?_
        exact nx_iret dX6_openRefusal_33 rfl rfl
    · refine nx_iconst dX6_openRefusal_19 rfl ?_
      exact nx_iret dX6_openRefusal_20 rfl rfl
  · refine nx_iload_n rfl dX6_openRefusal_4 rfl ?_
    refine nx_iconst dX6_openRefusal_5 rfl ?_
    refine nx_icmp_eq (t := 11) dX6_openRefusal_6 (by decide) rfl ?_ ?_
    · refine nx_aload_n rfl dX6_openRefusal_11 rfl ?_
      refine nx_iload_n rfl dX6_openRefusal_12 rfl ?_
      refine nx_callVr [.int a1] (fun r => .int (bz r)) (fun _ => (wW Γ M0 c f)) cw_6_62 cv_X6_isLive (fun r e => cW_isLive X.2.1 hw hc e) ((nx_put_ne hc).trans hw) rfl rfl (Nat.le_of_ble_eq_true rfl) (Nat.le_of_ble_eq_true rfl) dX6_openRefusal_13 rfl (fun b3 => ?_)
      refine nx_ifz_eq (t := 21) dX6_openRefusal_16 (by decide) rfl ?_ ?_
      · refine nx_aload_n rfl dX6_openRefusal_21 rfl ?_
        refine nx_callVr [] (fun r => .int (bz r)) (fun _ => (wW Γ M0 c f)) cw_6_66 cv_X6_isClockFull (fun r e => cW_isClockFull X.2.1 hw hc e) ((nx_put_ne hc).trans hw) rfl rfl (Nat.le_of_ble_eq_true rfl) (Nat.le_of_ble_eq_true rfl) dX6_openRefusal_22 rfl (fun b4 => ?_)
        refine nx_ifz_eq (t := 32) dX6_openRefusal_25 (by decide) rfl ?_ ?_
        · refine nx_iconst dX6_openRefusal_32 rfl ?_
          exact nx_iret dX6_openRefusal_33 rfl rfl
        · refine nx_iconst dX6_openRefusal_28 rfl ?_
          refine nx_goto (q := 33) dX6_openRefusal_29 (by decide) ?_
          exact nx_iret dX6_openRefusal_33 rfl rfl
      · refine nx_iconst dX6_openRefusal_19 rfl ?_
        exact nx_iret dX6_openRefusal_20 rfl rfl
    · refine nx_iconst dX6_openRefusal_9 rfl ?_
      exact nx_iret dX6_openRefusal_10 rfl rfl
theorem cW_openRefusal (l : Launch) {Γ : nx_G} {M0 : nx_M} {w c : Nat} (hw : M0.1 w = some (.inr (6, [.ref c]))) (hc : w ≠ c) {u : Nat} {f : (Nat → Int32)} {a1 : Int32} {a2 : Int32} {r : Int32}  (h : fW_openRefusal u f a1 a2 = some r) : nx_Ct l Γ 2 yX6_openRefusal cX6_openRefusal 3 (some .int) [.ref w, .int a1, .int a2] (wW Γ M0 c f) (some (.int r), (wW Γ M0 c f)) :=
  nx_ct (out := fun r0 : Int32 => (some (.int r0), (wW Γ M0 c f))) [some (.ref w), some (.int a1), some (.int a2)] pn_RX6 h (Nat.le_of_ble_eq_true rfl) rfl (fun X Z _ => jW_openRefusal hw hc u f a1 a2 X Z)
theorem dX6_isFreeStamp_0 : decode cX6_isFreeStamp 0 = .ok (.iload_n 1, 1) := by decide +kernel
theorem dX6_isFreeStamp_1 : decode cX6_isFreeStamp 1 = .ok (.aload_n 0, 1) := by decide +kernel
theorem dX6_isFreeStamp_2 : decode cX6_isFreeStamp 2 = .ok (.getfield 11, 3) := by decide +kernel
theorem dX6_isFreeStamp_5 : decode cX6_isFreeStamp 5 = .ok (.iconst 5, 1) := by decide +kernel
theorem dX6_isFreeStamp_6 : decode cX6_isFreeStamp 6 = .ok (.iaload, 1) := by decide +kernel
theorem dX6_isFreeStamp_7 : decode cX6_isFreeStamp 7 = .ok (.if_icmp .le 13, 3) := by decide +kernel
theorem dX6_isFreeStamp_10 : decode cX6_isFreeStamp 10 = .ok (.iload_n 1, 1) := by decide +kernel
theorem dX6_isFreeStamp_11 : decode cX6_isFreeStamp 11 = .ok (.aload_n 0, 1) := by decide +kernel
theorem dX6_isFreeStamp_12 : decode cX6_isFreeStamp 12 = .ok (.getfield 11, 3) := by decide +kernel
theorem dX6_isFreeStamp_15 : decode cX6_isFreeStamp 15 = .ok (.iconst 4, 1) := by decide +kernel
theorem dX6_isFreeStamp_16 : decode cX6_isFreeStamp 16 = .ok (.iaload, 1) := by decide +kernel
theorem dX6_isFreeStamp_17 : decode cX6_isFreeStamp 17 = .ok (.if_icmp .lt 5, 3) := by decide +kernel
theorem dX6_isFreeStamp_20 : decode cX6_isFreeStamp 20 = .ok (.iconst 0, 1) := by decide +kernel
theorem dX6_isFreeStamp_21 : decode cX6_isFreeStamp 21 = .ok (.ireturn, 1) := by decide +kernel
theorem dX6_isFreeStamp_22 : decode cX6_isFreeStamp 22 = .ok (.aload_n 0, 1) := by decide +kernel
theorem dX6_isFreeStamp_23 : decode cX6_isFreeStamp 23 = .ok (.getfield 11, 3) := by decide +kernel
theorem dX6_isFreeStamp_26 : decode cX6_isFreeStamp 26 = .ok (.iconst 2, 1) := by decide +kernel
theorem dX6_isFreeStamp_27 : decode cX6_isFreeStamp 27 = .ok (.iaload, 1) := by decide +kernel
theorem dX6_isFreeStamp_28 : decode cX6_isFreeStamp 28 = .ok (.istore_n 2, 1) := by decide +kernel
theorem dX6_isFreeStamp_29 : decode cX6_isFreeStamp 29 = .ok (.iload_n 2, 1) := by decide +kernel
theorem dX6_isFreeStamp_30 : decode cX6_isFreeStamp 30 = .ok (.ifCond .le 9, 3) := by decide +kernel
theorem dX6_isFreeStamp_33 : decode cX6_isFreeStamp 33 = .ok (.iload_n 1, 1) := by decide +kernel
theorem dX6_isFreeStamp_34 : decode cX6_isFreeStamp 34 = .ok (.iload_n 2, 1) := by decide +kernel
theorem dX6_isFreeStamp_35 : decode cX6_isFreeStamp 35 = .ok (.irem, 1) := by decide +kernel
theorem dX6_isFreeStamp_36 : decode cX6_isFreeStamp 36 = .ok (.ifCond .ne 5, 3) := by decide +kernel
theorem dX6_isFreeStamp_39 : decode cX6_isFreeStamp 39 = .ok (.iconst 0, 1) := by decide +kernel
theorem dX6_isFreeStamp_40 : decode cX6_isFreeStamp 40 = .ok (.ireturn, 1) := by decide +kernel
theorem dX6_isFreeStamp_41 : decode cX6_isFreeStamp 41 = .ok (.iconst 0, 1) := by decide +kernel
theorem dX6_isFreeStamp_42 : decode cX6_isFreeStamp 42 = .ok (.istore_n 3, 1) := by decide +kernel
theorem dX6_isFreeStamp_43 : decode cX6_isFreeStamp 43 = .ok (.iload_n 3, 1) := by decide +kernel
theorem dX6_isFreeStamp_44 : decode cX6_isFreeStamp 44 = .ok (.bipush 30, 2) := by decide +kernel
theorem dX6_isFreeStamp_46 : decode cX6_isFreeStamp 46 = .ok (.if_icmp .ge 35, 3) := by decide +kernel
theorem dX6_isFreeStamp_49 : decode cX6_isFreeStamp 49 = .ok (.iload_n 3, 1) := by decide +kernel
theorem dX6_isFreeStamp_50 : decode cX6_isFreeStamp 50 = .ok (.aload_n 0, 1) := by decide +kernel
theorem dX6_isFreeStamp_51 : decode cX6_isFreeStamp 51 = .ok (.getfield 11, 3) := by decide +kernel
theorem dX6_isFreeStamp_54 : decode cX6_isFreeStamp 54 = .ok (.bipush 7, 2) := by decide +kernel
theorem dX6_isFreeStamp_56 : decode cX6_isFreeStamp 56 = .ok (.iaload, 1) := by decide +kernel
theorem dX6_isFreeStamp_57 : decode cX6_isFreeStamp 57 = .ok (.if_icmp .ge 24, 3) := by decide +kernel
theorem dX6_isFreeStamp_60 : decode cX6_isFreeStamp 60 = .ok (.aload_n 0, 1) := by decide +kernel
theorem dX6_isFreeStamp_61 : decode cX6_isFreeStamp 61 = .ok (.getfield 11, 3) := by decide +kernel
theorem dX6_isFreeStamp_64 : decode cX6_isFreeStamp 64 = .ok (.bipush 10, 2) := by decide +kernel
theorem dX6_isFreeStamp_66 : decode cX6_isFreeStamp 66 = .ok (.iload_n 3, 1) := by decide +kernel
theorem dX6_isFreeStamp_67 : decode cX6_isFreeStamp 67 = .ok (.iadd, 1) := by decide +kernel
theorem dX6_isFreeStamp_68 : decode cX6_isFreeStamp 68 = .ok (.iaload, 1) := by decide +kernel
theorem dX6_isFreeStamp_69 : decode cX6_isFreeStamp 69 = .ok (.iload_n 1, 1) := by decide +kernel
theorem dX6_isFreeStamp_70 : decode cX6_isFreeStamp 70 = .ok (.if_icmp .ne 5, 3) := by decide +kernel
theorem dX6_isFreeStamp_73 : decode cX6_isFreeStamp 73 = .ok (.iconst 0, 1) := by decide +kernel
theorem dX6_isFreeStamp_74 : decode cX6_isFreeStamp 74 = .ok (.ireturn, 1) := by decide +kernel
theorem dX6_isFreeStamp_75 : decode cX6_isFreeStamp 75 = .ok (.iinc 3 1, 3) := by decide +kernel
theorem dX6_isFreeStamp_78 : decode cX6_isFreeStamp 78 = .ok (.goto (-35), 3) := by decide +kernel
theorem dX6_isFreeStamp_81 : decode cX6_isFreeStamp 81 = .ok (.iconst 1, 1) := by decide +kernel
theorem dX6_isFreeStamp_82 : decode cX6_isFreeStamp 82 = .ok (.ireturn, 1) := by decide +kernel
def fW_isFreeStamp_43 (f : (Nat → Int32)) (a1 : Int32) (s5 : Int32) : Option ((Int32) ⊕ ((Unit) ⊕ (Bool))) :=
  if (iz 30) ≤ s5 then
    some (.inr (.inl ()))
  else
    (nx_rd 514 f (iz 7)).bind fun x6 =>
    if x6 ≤ s5 then
      some (.inr (.inl ()))
    else
      (nx_rd 514 f ((iz 10) + s5)).bind fun x7 =>
      if x7 = a1 then
        some (.inr (.inr false))
      else
        some (.inl (s5 + iz 1))
def fW_isFreeStamp (u : Nat) (f : (Nat → Int32)) (a1 : Int32) : Option (Bool) :=
  (nx_rd 514 f (iz 5)).bind fun x1 =>
  if a1 ≤ x1 then
    some false
  else
    (nx_rd 514 f (iz 4)).bind fun x2 =>
    if a1 < x2 then
      (nx_rd 514 f (iz 2)).bind fun x3 =>
      if x3 ≤ iz 0 then
        some false
      else
        (nx_rm32 a1 x3).bind fun x4 =>
        if x4 = iz 0 then
          some false
        else
          (nx_iter u (fW_isFreeStamp_43 f a1) (iz 0)).bind (Sum.elim (fun e8 =>
            some true)
            (fun r0 => some r0))
    else
      some false
set_option maxRecDepth 4000 in
theorem jW_isFreeStamp_43 {Γ : nx_G} {M0 : nx_M} {w c : Nat} (hw : M0.1 w = some (.inr (6, [.ref c]))) (hc : w ≠ c) (f : (Nat → Int32)) (a1 : Int32) (x3 : Int32)   (X : nx_X) (Z : nx_Z) (s5 : Int32) : nx_J Γ X (RX6, cX6_isFreeStamp, 4, (some .boolean), "isFreeStamp", 1) Z (Sum.elim (fun s5 : Int32 => .inl (43, [some (.ref w), some (.int a1), some (.int x3), some (.int s5)], [], (wW Γ M0 c f))) (Sum.elim (fun e8 : Unit => .inl (81, [some (.ref w), some (.int a1), some (.int x3), none], [], (wW Γ M0 c f))) (fun r0 : Bool => .inr (some (.int (bz r0)), (wW Γ M0 c f))))) (.inl (43, [some (.ref w), some (.int a1), some (.int x3), some (.int s5)], [], (wW Γ M0 c f))) (fW_isFreeStamp_43 f a1 s5) := by
  unfold fW_isFreeStamp_43
  refine nx_iload_n rfl dX6_isFreeStamp_43 rfl ?_
  refine nx_bipush (by decide +kernel) dX6_isFreeStamp_44 rfl ?_
  refine nx_icmp_ge (t := 81) dX6_isFreeStamp_46 (by decide) rfl ?_ ?_
  · refine nx_weak (ls' := [some (.ref w), some (.int a1), some (.int x3), none]) (nx_wk_s (nx_wk_s (nx_wk_s (nx_wk_n nx_wk_e)))) ?_
    exact nx_leaf rfl
  · refine nx_iload_n rfl dX6_isFreeStamp_49 rfl ?_
    refine nx_aload_n rfl dX6_isFreeStamp_50 rfl ?_
    refine nx_getf fl_6_11 ((nx_put_ne hc).trans hw) rfl dX6_isFreeStamp_51 rfl ?_
    refine nx_bipush (by decide +kernel) dX6_isFreeStamp_54 rfl ?_
    refine nx_iald nx_put_self dX6_isFreeStamp_56 rfl (fun x6 => ?_)
    refine nx_icmp_ge (t := 81) dX6_isFreeStamp_57 (by decide) rfl ?_ ?_
    · refine nx_weak (ls' := [some (.ref w), some (.int a1), some (.int x3), none]) (nx_wk_s (nx_wk_s (nx_wk_s (nx_wk_n nx_wk_e)))) ?_
      exact nx_leaf rfl
    · refine nx_aload_n rfl dX6_isFreeStamp_60 rfl ?_
      refine nx_getf fl_6_11 ((nx_put_ne hc).trans hw) rfl dX6_isFreeStamp_61 rfl ?_
      refine nx_bipush (by decide +kernel) dX6_isFreeStamp_64 rfl ?_
      refine nx_iload_n rfl dX6_isFreeStamp_66 rfl ?_
      refine nx_iadd dX6_isFreeStamp_67 rfl ?_
      refine nx_iald nx_put_self dX6_isFreeStamp_68 rfl (fun x7 => ?_)
      refine nx_iload_n rfl dX6_isFreeStamp_69 rfl ?_
      refine nx_icmp_ne (t := 75) dX6_isFreeStamp_70 (by decide) rfl ?_ ?_
      · refine nx_iinc [some (.ref w), some (.int a1), some (.int x3), some (.int (s5 + iz 1))] dX6_isFreeStamp_75 rfl rfl (Nat.le_of_ble_eq_true rfl) rfl rfl ?_
        refine nx_goto (q := 43) dX6_isFreeStamp_78 (by decide) ?_
        exact nx_leaf rfl
      · refine nx_iconst dX6_isFreeStamp_73 rfl ?_
        exact nx_zret (b := false) dX6_isFreeStamp_74 rfl rfl
set_option maxRecDepth 4000 in
theorem jW_isFreeStamp {Γ : nx_G} {M0 : nx_M} {w c : Nat} (hw : M0.1 w = some (.inr (6, [.ref c]))) (hc : w ≠ c) (u : Nat) (f : (Nat → Int32)) (a1 : Int32)   (X : nx_X) (Z : nx_Z) : nx_J Γ X (RX6, cX6_isFreeStamp, 4, (some .boolean), "isFreeStamp", 1) Z (fun r0 : Bool => .inr (some (.int (bz r0)), (wW Γ M0 c f))) (.inl (0, [some (.ref w), some (.int a1), none, none], [], (wW Γ M0 c f))) (fW_isFreeStamp u f a1) := by
  unfold fW_isFreeStamp
  refine nx_iload_n rfl dX6_isFreeStamp_0 rfl ?_
  refine nx_aload_n rfl dX6_isFreeStamp_1 rfl ?_
  refine nx_getf fl_6_11 ((nx_put_ne hc).trans hw) rfl dX6_isFreeStamp_2 rfl ?_
  refine nx_iconst dX6_isFreeStamp_5 rfl ?_
  refine nx_iald nx_put_self dX6_isFreeStamp_6 rfl (fun x1 => ?_)
  refine nx_icmp_le (t := 20) dX6_isFreeStamp_7 (by decide) rfl ?_ ?_
  · refine nx_iconst dX6_isFreeStamp_20 rfl ?_
    exact nx_zret (b := false) dX6_isFreeStamp_21 rfl rfl
  · refine nx_iload_n rfl dX6_isFreeStamp_10 rfl ?_
    refine nx_aload_n rfl dX6_isFreeStamp_11 rfl ?_
    refine nx_getf fl_6_11 ((nx_put_ne hc).trans hw) rfl dX6_isFreeStamp_12 rfl ?_
    refine nx_iconst dX6_isFreeStamp_15 rfl ?_
    refine nx_iald nx_put_self dX6_isFreeStamp_16 rfl (fun x2 => ?_)
    refine nx_icmp_lt (t := 22) dX6_isFreeStamp_17 (by decide) rfl ?_ ?_
    · refine nx_aload_n rfl dX6_isFreeStamp_22 rfl ?_
      refine nx_getf fl_6_11 ((nx_put_ne hc).trans hw) rfl dX6_isFreeStamp_23 rfl ?_
      refine nx_iconst dX6_isFreeStamp_26 rfl ?_
      refine nx_iald nx_put_self dX6_isFreeStamp_27 rfl (fun x3 => ?_)
      refine nx_istore_n [some (.ref w), some (.int a1), some (.int x3), none] dX6_isFreeStamp_28 rfl (Nat.le_of_ble_eq_true rfl) rfl rfl ?_
      refine nx_iload_n rfl dX6_isFreeStamp_29 rfl ?_
      refine nx_if_le (t := 39) dX6_isFreeStamp_30 (by decide) rfl ?_ ?_
      · refine nx_iconst dX6_isFreeStamp_39 rfl ?_
        exact nx_zret (b := false) dX6_isFreeStamp_40 rfl rfl
      · refine nx_iload_n rfl dX6_isFreeStamp_33 rfl ?_
        refine nx_iload_n rfl dX6_isFreeStamp_34 rfl ?_
        refine nx_irem dX6_isFreeStamp_35 rfl (fun x4 => ?_)
        refine nx_if_ne (t := 41) dX6_isFreeStamp_36 (by decide) rfl ?_ ?_
        · refine nx_iconst dX6_isFreeStamp_41 rfl ?_
          refine nx_istore_n [some (.ref w), some (.int a1), some (.int x3), some (.int (iz 0))] dX6_isFreeStamp_42 rfl (Nat.le_of_ble_eq_true rfl) rfl rfl ?_
          refine nx_seqS (Ca := fun e8 : Unit => .inl (81, [some (.ref w), some (.int a1), some (.int x3), none], [], (wW Γ M0 c f))) (Cb := fun r0 : Bool => .inr (some (.int (bz r0)), (wW Γ M0 c f))) (nx_loop (C1 := fun s5 : Int32 => .inl (43, [some (.ref w), some (.int a1), some (.int x3), some (.int s5)], [], (wW Γ M0 c f))) (fun s5 => jW_isFreeStamp_43 hw hc f a1 x3 X Z s5) (iz 0)) (fun e8 => ?_) (fun r0 => ?_)
          · refine nx_iconst dX6_isFreeStamp_81 rfl ?_
            exact nx_zret (b := true) dX6_isFreeStamp_82 rfl rfl
          · exact nx_leaf rfl
        · refine nx_iconst dX6_isFreeStamp_39 rfl ?_
          exact nx_zret (b := false) dX6_isFreeStamp_40 rfl rfl
    · refine nx_iconst dX6_isFreeStamp_20 rfl ?_
      exact nx_zret (b := false) dX6_isFreeStamp_21 rfl rfl
theorem cW_isFreeStamp (l : Launch) {Γ : nx_G} {M0 : nx_M} {w c : Nat} (hw : M0.1 w = some (.inr (6, [.ref c]))) (hc : w ≠ c) {u : Nat} {f : (Nat → Int32)} {a1 : Int32} {r : Bool}  (h : fW_isFreeStamp u f a1 = some r) : nx_Ct l Γ 1 yX6_isFreeStamp cX6_isFreeStamp 4 (some .boolean) [.ref w, .int a1] (wW Γ M0 c f) (some (.int (bz r)), (wW Γ M0 c f)) :=
  nx_ct (out := fun r0 : Bool => (some (.int (bz r0)), (wW Γ M0 c f))) [some (.ref w), some (.int a1), none, none] pn_RX6 h (Nat.le_of_ble_eq_true rfl) rfl (fun X Z _ => jW_isFreeStamp hw hc u f a1 X Z)
theorem dX6_handRefusal_0 : decode cX6_handRefusal 0 = .ok (.iload_n 2, 1) := by decide +kernel
theorem dX6_handRefusal_1 : decode cX6_handRefusal 1 = .ok (.ifCond .eq 10, 3) := by decide +kernel
theorem dX6_handRefusal_4 : decode cX6_handRefusal 4 = .ok (.iload_n 2, 1) := by decide +kernel
theorem dX6_handRefusal_5 : decode cX6_handRefusal 5 = .ok (.iconst 1, 1) := by decide +kernel
theorem dX6_handRefusal_6 : decode cX6_handRefusal 6 = .ok (.if_icmp .eq 5, 3) := by decide +kernel
theorem dX6_handRefusal_9 : decode cX6_handRefusal 9 = .ok (.iconst 1, 1) := by decide +kernel
theorem dX6_handRefusal_10 : decode cX6_handRefusal 10 = .ok (.ireturn, 1) := by decide +kernel
theorem dX6_handRefusal_11 : decode cX6_handRefusal 11 = .ok (.aload_n 0, 1) := by decide +kernel
theorem dX6_handRefusal_12 : decode cX6_handRefusal 12 = .ok (.iload_n 1, 1) := by decide +kernel
theorem dX6_handRefusal_13 : decode cX6_handRefusal 13 = .ok (.invokevirtual 62, 3) := by decide +kernel
theorem dX6_handRefusal_16 : decode cX6_handRefusal 16 = .ok (.ifCond .ne 11, 3) := by decide +kernel
theorem dX6_handRefusal_19 : decode cX6_handRefusal 19 = .ok (.aload_n 0, 1) := by decide +kernel
theorem dX6_handRefusal_20 : decode cX6_handRefusal 20 = .ok (.iload_n 3, 1) := by decide +kernel
theorem dX6_handRefusal_21 : decode cX6_handRefusal 21 = .ok (.invokevirtual 69, 3) := by decide +kernel
theorem dX6_handRefusal_24 : decode cX6_handRefusal 24 = .ok (.ifCond .ne 5, 3) := by decide +kernel
theorem dX6_handRefusal_27 : decode cX6_handRefusal 27 = .ok (.iconst 2, 1) := by decide +kernel
theorem dX6_handRefusal_28 : decode cX6_handRefusal 28 = .ok (.ireturn, 1) := by decide +kernel
theorem dX6_handRefusal_29 : decode cX6_handRefusal 29 = .ok (.aload_n 0, 1) := by decide +kernel
theorem dX6_handRefusal_30 : decode cX6_handRefusal 30 = .ok (.getfield 11, 3) := by decide +kernel
theorem dX6_handRefusal_33 : decode cX6_handRefusal 33 = .ok (.bipush 7, 2) := by decide +kernel
theorem dX6_handRefusal_35 : decode cX6_handRefusal 35 = .ok (.iaload, 1) := by decide +kernel
theorem dX6_handRefusal_36 : decode cX6_handRefusal 36 = .ok (.bipush 30, 2) := by decide +kernel
theorem dX6_handRefusal_38 : decode cX6_handRefusal 38 = .ok (.if_icmp .lt 7, 3) := by decide +kernel
theorem dX6_handRefusal_41 : decode cX6_handRefusal 41 = .ok (.iconst 3, 1) := by decide +kernel
theorem dX6_handRefusal_42 : decode cX6_handRefusal 42 = .ok (.goto 4, 3) := by decide +kernel
theorem dX6_handRefusal_45 : decode cX6_handRefusal 45 = .ok (.iconst (-1), 1) := by decide +kernel
theorem dX6_handRefusal_46 : decode cX6_handRefusal 46 = .ok (.ireturn, 1) := by decide +kernel
def fW_handRefusal (u : Nat) (f : (Nat → Int32)) (a1 : Int32) (a2 : Int32) (a3 : Int32) : Option (Int32) :=
  if a2 = iz 0 then
    (fW_isLive u f a1).bind fun b1 =>
    if b1 = true then
      some (iz 2)
    else
      (fW_isFreeStamp u f a3).bind fun b2 =>
      if b2 = true then
        (nx_rd 514 f (iz 7)).bind fun x3 =>
        if x3 < (iz 30) then
          some (iz (-1))
        else
          some (iz 3)
      else
        some (iz 2)
  else
    if a2 = (iz 1) then
      (fW_isLive u f a1).bind fun b4 =>
      if b4 = true then
        some (iz 2)
      else
        (fW_isFreeStamp u f a3).bind fun b5 =>
        if b5 = true then
          (nx_rd 514 f (iz 7)).bind fun x6 =>
          if x6 < (iz 30) then
            some (iz (-1))
          else
            some (iz 3)
        else
          some (iz 2)
    else
      some (iz 1)
set_option maxRecDepth 4000 in
theorem jW_handRefusal {Γ : nx_G} {M0 : nx_M} {w c : Nat} (hw : M0.1 w = some (.inr (6, [.ref c]))) (hc : w ≠ c) (u : Nat) (f : (Nat → Int32)) (a1 : Int32) (a2 : Int32) (a3 : Int32)   (X : nx_X) (Z : nx_Z) : nx_J Γ X (RX6, cX6_handRefusal, 4, (some .int), "handRefusal", 2) Z (fun r0 : Int32 => .inr (some (.int r0), (wW Γ M0 c f))) (.inl (0, [some (.ref w), some (.int a1), some (.int a2), some (.int a3)], [], (wW Γ M0 c f))) (fW_handRefusal u f a1 a2 a3) := by
  unfold fW_handRefusal
  refine nx_iload_n rfl dX6_handRefusal_0 rfl ?_
  refine nx_if_eq (t := 11) dX6_handRefusal_1 (by decide) rfl ?_ ?_
  · refine nx_aload_n rfl dX6_handRefusal_11 rfl ?_
    refine nx_iload_n rfl dX6_handRefusal_12 rfl ?_
    refine nx_callVr [.int a1] (fun r => .int (bz r)) (fun _ => (wW Γ M0 c f)) cw_6_62 cv_X6_isLive (fun r e => cW_isLive X.2.1 hw hc e) ((nx_put_ne hc).trans hw) rfl rfl (Nat.le_of_ble_eq_true rfl) (Nat.le_of_ble_eq_true rfl) dX6_handRefusal_13 rfl (fun b1 => ?_)
    refine nx_ifz_ne (t := 27) dX6_handRefusal_16 (by decide) rfl ?_ ?_
    · refine nx_iconst dX6_handRefusal_27 rfl ?_
      exact nx_iret dX6_handRefusal_28 rfl rfl
    · refine nx_aload_n rfl dX6_handRefusal_19 rfl ?_
      refine nx_iload_n rfl dX6_handRefusal_20 rfl ?_
      refine nx_callVr [.int a3] (fun r => .int (bz r)) (fun _ => (wW Γ M0 c f)) cw_6_69 cv_X6_isFreeStamp (fun r e => cW_isFreeStamp X.2.1 hw hc e) ((nx_put_ne hc).trans hw) rfl rfl (Nat.le_of_ble_eq_true rfl) (Nat.le_of_ble_eq_true rfl) dX6_handRefusal_21 rfl (fun b2 => ?_)
      refine nx_ifz_ne (t := 29) dX6_handRefusal_24 (by decide) rfl ?_ ?_
      · refine nx_aload_n rfl dX6_handRefusal_29 rfl ?_
        refine nx_getf fl_6_11 ((nx_put_ne hc).trans hw) rfl dX6_handRefusal_30 rfl ?_
        refine nx_bipush (by decide +kernel) dX6_handRefusal_33 rfl ?_
        refine nx_iald nx_put_self dX6_handRefusal_35 rfl (fun x3 => ?_)
        refine nx_bipush (by decide +kernel) dX6_handRefusal_36 rfl ?_
        refine nx_icmp_lt (t := 45) dX6_handRefusal_38 (by decide) rfl ?_ ?_
        · refine nx_iconst dX6_handRefusal_45 rfl ?_
          exact nx_iret dX6_handRefusal_46 rfl rfl
        · refine nx_iconst dX6_handRefusal_41 rfl ?_
          refine nx_goto (q := 46) dX6_handRefusal_42 (by decide) ?_
          exact nx_iret dX6_handRefusal_46 rfl rfl
      · refine nx_iconst dX6_handRefusal_27 rfl ?_
        exact nx_iret dX6_handRefusal_28 rfl rfl
  · refine nx_iload_n rfl dX6_handRefusal_4 rfl ?_
    refine nx_iconst dX6_handRefusal_5 rfl ?_
    refine nx_icmp_eq (t := 11) dX6_handRefusal_6 (by decide) rfl ?_ ?_
    · refine nx_aload_n rfl dX6_handRefusal_11 rfl ?_
      refine nx_iload_n rfl dX6_handRefusal_12 rfl ?_
      refine nx_callVr [.int a1] (fun r => .int (bz r)) (fun _ => (wW Γ M0 c f)) cw_6_62 cv_X6_isLive (fun r e => cW_isLive X.2.1 hw hc e) ((nx_put_ne hc).trans hw) rfl rfl (Nat.le_of_ble_eq_true rfl) (Nat.le_of_ble_eq_true rfl) dX6_handRefusal_13 rfl (fun b4 => ?_)
      refine nx_ifz_ne (t := 27) dX6_handRefusal_16 (by decide) rfl ?_ ?_
      · refine nx_iconst dX6_handRefusal_27 rfl ?_
        exact nx_iret dX6_handRefusal_28 rfl rfl
      · refine nx_aload_n rfl dX6_handRefusal_19 rfl ?_
        refine nx_iload_n rfl dX6_handRefusal_20 rfl ?_
        refine nx_callVr [.int a3] (fun r => .int (bz r)) (fun _ => (wW Γ M0 c f)) cw_6_69 cv_X6_isFreeStamp (fun r e => cW_isFreeStamp X.2.1 hw hc e) ((nx_put_ne hc).trans hw) rfl rfl (Nat.le_of_ble_eq_true rfl) (Nat.le_of_ble_eq_true rfl) dX6_handRefusal_21 rfl (fun b5 => ?_)
        refine nx_ifz_ne (t := 29) dX6_handRefusal_24 (by decide) rfl ?_ ?_
        · refine nx_aload_n rfl dX6_handRefusal_29 rfl ?_
          refine nx_getf fl_6_11 ((nx_put_ne hc).trans hw) rfl dX6_handRefusal_30 rfl ?_
          refine nx_bipush (by decide +kernel) dX6_handRefusal_33 rfl ?_
          refine nx_iald nx_put_self dX6_handRefusal_35 rfl (fun x6 => ?_)
          refine nx_bipush (by decide +kernel) dX6_handRefusal_36 rfl ?_
          refine nx_icmp_lt (t := 45) dX6_handRefusal_38 (by decide) rfl ?_ ?_
          · refine nx_iconst dX6_handRefusal_45 rfl ?_
            exact nx_iret dX6_handRefusal_46 rfl rfl
          · refine nx_iconst dX6_handRefusal_41 rfl ?_
            refine nx_goto (q := 46) dX6_handRefusal_42 (by decide) ?_
            exact nx_iret dX6_handRefusal_46 rfl rfl
        · refine nx_iconst dX6_handRefusal_27 rfl ?_
          exact nx_iret dX6_handRefusal_28 rfl rfl
    · refine nx_iconst dX6_handRefusal_9 rfl ?_
      exact nx_iret dX6_handRefusal_10 rfl rfl
theorem cW_handRefusal (l : Launch) {Γ : nx_G} {M0 : nx_M} {w c : Nat} (hw : M0.1 w = some (.inr (6, [.ref c]))) (hc : w ≠ c) {u : Nat} {f : (Nat → Int32)} {a1 : Int32} {a2 : Int32} {a3 : Int32} {r : Int32}  (h : fW_handRefusal u f a1 a2 a3 = some r) : nx_Ct l Γ 2 yX6_handRefusal cX6_handRefusal 4 (some .int) [.ref w, .int a1, .int a2, .int a3] (wW Γ M0 c f) (some (.int r), (wW Γ M0 c f)) :=
  nx_ct (out := fun r0 : Int32 => (some (.int r0), (wW Γ M0 c f))) [some (.ref w), some (.int a1), some (.int a2), some (.int a3)] pn_RX6 h (Nat.le_of_ble_eq_true rfl) rfl (fun X Z _ => jW_handRefusal hw hc u f a1 a2 a3 X Z)
theorem dX6_stateRefusal_0 : decode cX6_stateRefusal 0 = .ok (.aload_n 0, 1) := by decide +kernel
theorem dX6_stateRefusal_1 : decode cX6_stateRefusal 1 = .ok (.getfield 11, 3) := by decide +kernel
theorem dX6_stateRefusal_4 : decode cX6_stateRefusal 4 = .ok (.bipush 40, 2) := by decide +kernel
theorem dX6_stateRefusal_6 : decode cX6_stateRefusal 6 = .ok (.iload_n 1, 1) := by decide +kernel
theorem dX6_stateRefusal_7 : decode cX6_stateRefusal 7 = .ok (.iadd, 1) := by decide +kernel
theorem dX6_stateRefusal_8 : decode cX6_stateRefusal 8 = .ok (.iaload, 1) := by decide +kernel
theorem dX6_stateRefusal_9 : decode cX6_stateRefusal 9 = .ok (.istore 4, 2) := by decide +kernel
theorem dX6_stateRefusal_11 : decode cX6_stateRefusal 11 = .ok (.iload 4, 2) := by decide +kernel
theorem dX6_stateRefusal_13 : decode cX6_stateRefusal 13 = .ok (.ifCond .ne 5, 3) := by decide +kernel
theorem dX6_stateRefusal_16 : decode cX6_stateRefusal 16 = .ok (.iconst 0, 1) := by decide +kernel
theorem dX6_stateRefusal_17 : decode cX6_stateRefusal 17 = .ok (.ireturn, 1) := by decide +kernel
theorem dX6_stateRefusal_18 : decode cX6_stateRefusal 18 = .ok (.iload 4, 2) := by decide +kernel
theorem dX6_stateRefusal_20 : decode cX6_stateRefusal 20 = .ok (.iload_n 2, 1) := by decide +kernel
theorem dX6_stateRefusal_21 : decode cX6_stateRefusal 21 = .ok (.if_icmp .eq 9, 3) := by decide +kernel
theorem dX6_stateRefusal_24 : decode cX6_stateRefusal 24 = .ok (.iload 4, 2) := by decide +kernel
theorem dX6_stateRefusal_26 : decode cX6_stateRefusal 26 = .ok (.iload_n 3, 1) := by decide +kernel
theorem dX6_stateRefusal_27 : decode cX6_stateRefusal 27 = .ok (.if_icmp .ne 7, 3) := by decide +kernel
theorem dX6_stateRefusal_30 : decode cX6_stateRefusal 30 = .ok (.iconst (-1), 1) := by decide +kernel
theorem dX6_stateRefusal_31 : decode cX6_stateRefusal 31 = .ok (.goto 4, 3) := by decide +kernel
theorem dX6_stateRefusal_34 : decode cX6_stateRefusal 34 = .ok (.iconst 2, 1) := by decide +kernel
theorem dX6_stateRefusal_35 : decode cX6_stateRefusal 35 = .ok (.ireturn, 1) := by decide +kernel
def fW_stateRefusal (u : Nat) (f : (Nat → Int32)) (a1 : Int32) (a2 : Int32) (a3 : Int32) : Option (Int32) :=
  (nx_rd 514 f ((iz 40) + a1)).bind fun x1 =>
  if x1 = iz 0 then
    some (iz 0)
  else
    if x1 = a2 then
      some (iz (-1))
    else
      if x1 = a3 then
        some (iz (-1))
      else
        some (iz 2)
set_option maxRecDepth 4000 in
theorem jW_stateRefusal {Γ : nx_G} {M0 : nx_M} {w c : Nat} (hw : M0.1 w = some (.inr (6, [.ref c]))) (hc : w ≠ c) (u : Nat) (f : (Nat → Int32)) (a1 : Int32) (a2 : Int32) (a3 : Int32)   (X : nx_X) (Z : nx_Z) : nx_J Γ X (RX6, cX6_stateRefusal, 5, (some .int), "stateRefusal", 1) Z (fun r0 : Int32 => .inr (some (.int r0), (wW Γ M0 c f))) (.inl (0, [some (.ref w), some (.int a1), some (.int a2), some (.int a3), none], [], (wW Γ M0 c f))) (fW_stateRefusal u f a1 a2 a3) := by
  unfold fW_stateRefusal
  refine nx_aload_n rfl dX6_stateRefusal_0 rfl ?_
  refine nx_getf fl_6_11 ((nx_put_ne hc).trans hw) rfl dX6_stateRefusal_1 rfl ?_
  refine nx_bipush (by decide +kernel) dX6_stateRefusal_4 rfl ?_
  refine nx_iload_n rfl dX6_stateRefusal_6 rfl ?_
  refine nx_iadd dX6_stateRefusal_7 rfl ?_
  refine nx_iald nx_put_self dX6_stateRefusal_8 rfl (fun x1 => ?_)
  refine nx_istore [some (.ref w), some (.int a1), some (.int a2), some (.int a3), some (.int x1)] dX6_stateRefusal_9 rfl (Nat.le_of_ble_eq_true rfl) rfl rfl ?_
  refine nx_iload rfl dX6_stateRefusal_11 rfl ?_
  refine nx_if_ne (t := 18) dX6_stateRefusal_13 (by decide) rfl ?_ ?_
  · refine nx_iload rfl dX6_stateRefusal_18 rfl ?_
    refine nx_iload_n rfl dX6_stateRefusal_20 rfl ?_
    refine nx_icmp_eq (t := 30) dX6_stateRefusal_21 (by decide) rfl ?_ ?_
    · refine nx_iconst dX6_stateRefusal_30 rfl ?_
      refine nx_goto (q := 35) dX6_stateRefusal_31 (by decide) ?_
      exact nx_iret dX6_stateRefusal_35 rfl rfl
    · refine nx_iload rfl dX6_stateRefusal_24 rfl ?_
      refine nx_iload_n rfl dX6_stateRefusal_26 rfl ?_
      refine nx_icmp_ne (t := 34) dX6_stateRefusal_27 (by decide) rfl ?_ ?_
      · refine nx_iconst dX6_stateRefusal_34 rfl ?_
        exact nx_iret dX6_stateRefusal_35 rfl rfl
      · refine nx_iconst dX6_stateRefusal_30 rfl ?_
        refine nx_goto (q := 35) dX6_stateRefusal_31 (by decide) ?_
        exact nx_iret dX6_stateRefusal_35 rfl rfl
  · refine nx_iconst dX6_stateRefusal_16 rfl ?_
    exact nx_iret dX6_stateRefusal_17 rfl rfl
theorem cW_stateRefusal (l : Launch) {Γ : nx_G} {M0 : nx_M} {w c : Nat} (hw : M0.1 w = some (.inr (6, [.ref c]))) (hc : w ≠ c) {u : Nat} {f : (Nat → Int32)} {a1 : Int32} {a2 : Int32} {a3 : Int32} {r : Int32}  (h : fW_stateRefusal u f a1 a2 a3 = some r) : nx_Ct l Γ 1 yX6_stateRefusal cX6_stateRefusal 5 (some .int) [.ref w, .int a1, .int a2, .int a3] (wW Γ M0 c f) (some (.int r), (wW Γ M0 c f)) :=
  nx_ct (out := fun r0 : Int32 => (some (.int r0), (wW Γ M0 c f))) [some (.ref w), some (.int a1), some (.int a2), some (.int a3), none] pn_RX6 h (Nat.le_of_ble_eq_true rfl) rfl (fun X Z _ => jW_stateRefusal hw hc u f a1 a2 a3 X Z)
theorem dX6_readRefusal_0 : decode cX6_readRefusal 0 = .ok (.aload_n 0, 1) := by decide +kernel
theorem dX6_readRefusal_1 : decode cX6_readRefusal 1 = .ok (.iload_n 2, 1) := by decide +kernel
theorem dX6_readRefusal_2 : decode cX6_readRefusal 2 = .ok (.invokevirtual 72, 3) := by decide +kernel
theorem dX6_readRefusal_5 : decode cX6_readRefusal 5 = .ok (.ifCond .eq 13, 3) := by decide +kernel
theorem dX6_readRefusal_8 : decode cX6_readRefusal 8 = .ok (.aload_n 0, 1) := by decide +kernel
theorem dX6_readRefusal_9 : decode cX6_readRefusal 9 = .ok (.iload_n 1, 1) := by decide +kernel
theorem dX6_readRefusal_10 : decode cX6_readRefusal 10 = .ok (.iconst 1, 1) := by decide +kernel
theorem dX6_readRefusal_11 : decode cX6_readRefusal 11 = .ok (.iconst 1, 1) := by decide +kernel
theorem dX6_readRefusal_12 : decode cX6_readRefusal 12 = .ok (.invokevirtual 55, 3) := by decide +kernel
theorem dX6_readRefusal_15 : decode cX6_readRefusal 15 = .ok (.goto 4, 3) := by decide +kernel
theorem dX6_readRefusal_18 : decode cX6_readRefusal 18 = .ok (.iconst 0, 1) := by decide +kernel
theorem dX6_readRefusal_19 : decode cX6_readRefusal 19 = .ok (.ireturn, 1) := by decide +kernel
def fW_readRefusal (u : Nat) (f : (Nat → Int32)) (a1 : Int32) (a2 : Int32) : Option (Int32) :=
  (fW_hasKey u f a2).bind fun b1 =>
  if b1 = true then
    (fW_stateRefusal u f a1 (iz 1) (iz 1)).bind fun x2 =>
    some x2
  else
    some (iz 0)
set_option maxRecDepth 4000 in
theorem jW_readRefusal {Γ : nx_G} {M0 : nx_M} {w c : Nat} (hw : M0.1 w = some (.inr (6, [.ref c]))) (hc : w ≠ c) (u : Nat) (f : (Nat → Int32)) (a1 : Int32) (a2 : Int32)   (X : nx_X) (Z : nx_Z) : nx_J Γ X (RX6, cX6_readRefusal, 3, (some .int), "readRefusal", 3) Z (fun r0 : Int32 => .inr (some (.int r0), (wW Γ M0 c f))) (.inl (0, [some (.ref w), some (.int a1), some (.int a2)], [], (wW Γ M0 c f))) (fW_readRefusal u f a1 a2) := by
  unfold fW_readRefusal
  refine nx_aload_n rfl dX6_readRefusal_0 rfl ?_
  refine nx_iload_n rfl dX6_readRefusal_1 rfl ?_
  refine nx_callVr [.int a2] (fun r => .int (bz r)) (fun _ => (wW Γ M0 c f)) cw_6_72 cv_X6_hasKey (fun r e => cW_hasKey X.2.1 hw hc e) ((nx_put_ne hc).trans hw) rfl rfl (Nat.le_of_ble_eq_true rfl) (Nat.le_of_ble_eq_true rfl) dX6_readRefusal_2 rfl (fun b1 => ?_)
  refine nx_ifz_eq (t := 18) dX6_readRefusal_5 (by decide) rfl ?_ ?_
  · refine nx_iconst dX6_readRefusal_18 rfl ?_
    exact nx_iret dX6_readRefusal_19 rfl rfl
  · refine nx_aload_n rfl dX6_readRefusal_8 rfl ?_
    refine nx_iload_n rfl dX6_readRefusal_9 rfl ?_
    refine nx_iconst dX6_readRefusal_10 rfl ?_
    refine nx_iconst dX6_readRefusal_11 rfl ?_
    refine nx_callVr [.int a1, .int (iz 1), .int (iz 1)] (fun r => .int r) (fun _ => (wW Γ M0 c f)) cw_6_55 cv_X6_stateRefusal (fun r e => cW_stateRefusal X.2.1 hw hc e) ((nx_put_ne hc).trans hw) rfl rfl (Nat.le_of_ble_eq_true rfl) (Nat.le_of_ble_eq_true rfl) dX6_readRefusal_12 rfl (fun x2 => ?_)
    refine nx_goto (q := 19) dX6_readRefusal_15 (by decide) ?_
    exact nx_iret dX6_readRefusal_19 rfl rfl
theorem cW_readRefusal (l : Launch) {Γ : nx_G} {M0 : nx_M} {w c : Nat} (hw : M0.1 w = some (.inr (6, [.ref c]))) (hc : w ≠ c) {u : Nat} {f : (Nat → Int32)} {a1 : Int32} {a2 : Int32} {r : Int32}  (h : fW_readRefusal u f a1 a2 = some r) : nx_Ct l Γ 3 yX6_readRefusal cX6_readRefusal 3 (some .int) [.ref w, .int a1, .int a2] (wW Γ M0 c f) (some (.int r), (wW Γ M0 c f)) :=
  nx_ct (out := fun r0 : Int32 => (some (.int r0), (wW Γ M0 c f))) [some (.ref w), some (.int a1), some (.int a2)] pn_RX6 h (Nat.le_of_ble_eq_true rfl) rfl (fun X Z _ => jW_readRefusal hw hc u f a1 a2 X Z)
theorem dX6_ownSlot_0 : decode cX6_ownSlot 0 = .ok (.iload_n 1, 1) := by decide +kernel
theorem dX6_ownSlot_1 : decode cX6_ownSlot 1 = .ok (.bipush 9, 2) := by decide +kernel
theorem dX6_ownSlot_3 : decode cX6_ownSlot 3 = .ok (.imul, 1) := by decide +kernel
theorem dX6_ownSlot_4 : decode cX6_ownSlot 4 = .ok (.istore_n 3, 1) := by decide +kernel
theorem dX6_ownSlot_5 : decode cX6_ownSlot 5 = .ok (.iconst 0, 1) := by decide +kernel
theorem dX6_ownSlot_6 : decode cX6_ownSlot 6 = .ok (.istore 4, 2) := by decide +kernel
theorem dX6_ownSlot_8 : decode cX6_ownSlot 8 = .ok (.iload 4, 2) := by decide +kernel
theorem dX6_ownSlot_10 : decode cX6_ownSlot 10 = .ok (.bipush 9, 2) := by decide +kernel
theorem dX6_ownSlot_12 : decode cX6_ownSlot 12 = .ok (.if_icmp .ge 46, 3) := by decide +kernel
theorem dX6_ownSlot_15 : decode cX6_ownSlot 15 = .ok (.iload 4, 2) := by decide +kernel
theorem dX6_ownSlot_17 : decode cX6_ownSlot 17 = .ok (.aload_n 0, 1) := by decide +kernel
theorem dX6_ownSlot_18 : decode cX6_ownSlot 18 = .ok (.getfield 11, 3) := by decide +kernel
theorem dX6_ownSlot_21 : decode cX6_ownSlot 21 = .ok (.sipush 232, 3) := by decide +kernel
theorem dX6_ownSlot_24 : decode cX6_ownSlot 24 = .ok (.iload_n 1, 1) := by decide +kernel
theorem dX6_ownSlot_25 : decode cX6_ownSlot 25 = .ok (.iadd, 1) := by decide +kernel
theorem dX6_ownSlot_26 : decode cX6_ownSlot 26 = .ok (.iaload, 1) := by decide +kernel
theorem dX6_ownSlot_27 : decode cX6_ownSlot 27 = .ok (.if_icmp .ge 31, 3) := by decide +kernel
theorem dX6_ownSlot_30 : decode cX6_ownSlot 30 = .ok (.aload_n 0, 1) := by decide +kernel
theorem dX6_ownSlot_31 : decode cX6_ownSlot 31 = .ok (.getfield 11, 3) := by decide +kernel
theorem dX6_ownSlot_34 : decode cX6_ownSlot 34 = .ok (.sipush 400, 3) := by decide +kernel
theorem dX6_ownSlot_37 : decode cX6_ownSlot 37 = .ok (.iload_n 3, 1) := by decide +kernel
theorem dX6_ownSlot_38 : decode cX6_ownSlot 38 = .ok (.iadd, 1) := by decide +kernel
theorem dX6_ownSlot_39 : decode cX6_ownSlot 39 = .ok (.iload 4, 2) := by decide +kernel
theorem dX6_ownSlot_41 : decode cX6_ownSlot 41 = .ok (.iadd, 1) := by decide +kernel
theorem dX6_ownSlot_42 : decode cX6_ownSlot 42 = .ok (.iaload, 1) := by decide +kernel
theorem dX6_ownSlot_43 : decode cX6_ownSlot 43 = .ok (.iload_n 2, 1) := by decide +kernel
theorem dX6_ownSlot_44 : decode cX6_ownSlot 44 = .ok (.if_icmp .ne 8, 3) := by decide +kernel
theorem dX6_ownSlot_47 : decode cX6_ownSlot 47 = .ok (.iload_n 3, 1) := by decide +kernel
theorem dX6_ownSlot_48 : decode cX6_ownSlot 48 = .ok (.iload 4, 2) := by decide +kernel
theorem dX6_ownSlot_50 : decode cX6_ownSlot 50 = .ok (.iadd, 1) := by decide +kernel
theorem dX6_ownSlot_51 : decode cX6_ownSlot 51 = .ok (.ireturn, 1) := by decide +kernel
theorem dX6_ownSlot_52 : decode cX6_ownSlot 52 = .ok (.iinc 4 1, 3) := by decide +kernel
theorem dX6_ownSlot_55 : decode cX6_ownSlot 55 = .ok (.goto (-47), 3) := by decide +kernel
theorem dX6_ownSlot_58 : decode cX6_ownSlot 58 = .ok (.iconst (-1), 1) := by decide +kernel
theorem dX6_ownSlot_59 : decode cX6_ownSlot 59 = .ok (.ireturn, 1) := by decide +kernel
def fW_ownSlot_8 (f : (Nat → Int32)) (a1 : Int32) (a2 : Int32) (s1 : Int32) : Option ((Int32) ⊕ ((Unit) ⊕ (Int32))) :=
  if (iz 9) ≤ s1 then
    some (.inr (.inl ()))
  else
    (nx_rd 514 f ((iz 232) + a1)).bind fun x2 =>
    if x2 ≤ s1 then
      some (.inr (.inl ()))
    else
      (nx_rd 514 f (((iz 400) + (a1 * (iz 9))) + s1)).bind fun x3 =>
      if x3 = a2 then
        some (.inr (.inr ((a1 * (iz 9)) + s1)))
      else
        some (.inl (s1 + iz 1))
def fW_ownSlot (u : Nat) (f : (Nat → Int32)) (a1 : Int32) (a2 : Int32) : Option (Int32) :=
  (nx_iter u (fW_ownSlot_8 f a1 a2) (iz 0)).bind (Sum.elim (fun e4 =>
    some (iz (-1)))
    (fun r0 => some r0))
set_option maxRecDepth 4000 in
theorem jW_ownSlot_8 {Γ : nx_G} {M0 : nx_M} {w c : Nat} (hw : M0.1 w = some (.inr (6, [.ref c]))) (hc : w ≠ c) (f : (Nat → Int32)) (a1 : Int32) (a2 : Int32)   (X : nx_X) (Z : nx_Z) (s1 : Int32) : nx_J Γ X (RX6, cX6_ownSlot, 5, (some .int), "ownSlot", 1) Z (Sum.elim (fun s1 : Int32 => .inl (8, [some (.ref w), some (.int a1), some (.int a2), some (.int (a1 * (iz 9))), some (.int s1)], [], (wW Γ M0 c f))) (Sum.elim (fun e4 : Unit => .inl (58, [some (.ref w), some (.int a1), some (.int a2), some (.int (a1 * (iz 9))), none], [], (wW Γ M0 c f))) (fun r0 : Int32 => .inr (some (.int r0), (wW Γ M0 c f))))) (.inl (8, [some (.ref w), some (.int a1), some (.int a2), some (.int (a1 * (iz 9))), some (.int s1)], [], (wW Γ M0 c f))) (fW_ownSlot_8 f a1 a2 s1) := by
  unfold fW_ownSlot_8
  refine nx_iload rfl dX6_ownSlot_8 rfl ?_
  refine nx_bipush (by decide +kernel) dX6_ownSlot_10 rfl ?_
  refine nx_icmp_ge (t := 58) dX6_ownSlot_12 (by decide) rfl ?_ ?_
  · refine nx_weak (ls' := [some (.ref w), some (.int a1), some (.int a2), some (.int (a1 * (iz 9))), none]) (nx_wk_s (nx_wk_s (nx_wk_s (nx_wk_s (nx_wk_n nx_wk_e))))) ?_
    exact nx_leaf rfl
  · refine nx_iload rfl dX6_ownSlot_15 rfl ?_
    refine nx_aload_n rfl dX6_ownSlot_17 rfl ?_
    refine nx_getf fl_6_11 ((nx_put_ne hc).trans hw) rfl dX6_ownSlot_18 rfl ?_
    refine nx_sipush (by decide +kernel) dX6_ownSlot_21 rfl ?_
    refine nx_iload_n rfl dX6_ownSlot_24 rfl ?_
    refine nx_iadd dX6_ownSlot_25 rfl ?_
    refine nx_iald nx_put_self dX6_ownSlot_26 rfl (fun x2 => ?_)
    refine nx_icmp_ge (t := 58) dX6_ownSlot_27 (by decide) rfl ?_ ?_
    · refine nx_weak (ls' := [some (.ref w), some (.int a1), some (.int a2), some (.int (a1 * (iz 9))), none]) (nx_wk_s (nx_wk_s (nx_wk_s (nx_wk_s (nx_wk_n nx_wk_e))))) ?_
      exact nx_leaf rfl
    · refine nx_aload_n rfl dX6_ownSlot_30 rfl ?_
      refine nx_getf fl_6_11 ((nx_put_ne hc).trans hw) rfl dX6_ownSlot_31 rfl ?_
      refine nx_sipush (by decide +kernel) dX6_ownSlot_34 rfl ?_
      refine nx_iload_n rfl dX6_ownSlot_37 rfl ?_
      refine nx_iadd dX6_ownSlot_38 rfl ?_
      refine nx_iload rfl dX6_ownSlot_39 rfl ?_
      refine nx_iadd dX6_ownSlot_41 rfl ?_
      refine nx_iald nx_put_self dX6_ownSlot_42 rfl (fun x3 => ?_)
      refine nx_iload_n rfl dX6_ownSlot_43 rfl ?_
      refine nx_icmp_ne (t := 52) dX6_ownSlot_44 (by decide) rfl ?_ ?_
      · refine nx_iinc [some (.ref w), some (.int a1), some (.int a2), some (.int (a1 * (iz 9))), some (.int (s1 + iz 1))] dX6_ownSlot_52 rfl rfl (Nat.le_of_ble_eq_true rfl) rfl rfl ?_
        refine nx_goto (q := 8) dX6_ownSlot_55 (by decide) ?_
        exact nx_leaf rfl
      · refine nx_iload_n rfl dX6_ownSlot_47 rfl ?_
        refine nx_iload rfl dX6_ownSlot_48 rfl ?_
        refine nx_iadd dX6_ownSlot_50 rfl ?_
        exact nx_iret dX6_ownSlot_51 rfl rfl
set_option maxRecDepth 4000 in
theorem jW_ownSlot {Γ : nx_G} {M0 : nx_M} {w c : Nat} (hw : M0.1 w = some (.inr (6, [.ref c]))) (hc : w ≠ c) (u : Nat) (f : (Nat → Int32)) (a1 : Int32) (a2 : Int32)   (X : nx_X) (Z : nx_Z) : nx_J Γ X (RX6, cX6_ownSlot, 5, (some .int), "ownSlot", 1) Z (fun r0 : Int32 => .inr (some (.int r0), (wW Γ M0 c f))) (.inl (0, [some (.ref w), some (.int a1), some (.int a2), none, none], [], (wW Γ M0 c f))) (fW_ownSlot u f a1 a2) := by
  unfold fW_ownSlot
  refine nx_iload_n rfl dX6_ownSlot_0 rfl ?_
  refine nx_bipush (by decide +kernel) dX6_ownSlot_1 rfl ?_
  refine nx_imul dX6_ownSlot_3 rfl ?_
  refine nx_istore_n [some (.ref w), some (.int a1), some (.int a2), some (.int (a1 * (iz 9))), none] dX6_ownSlot_4 rfl (Nat.le_of_ble_eq_true rfl) rfl rfl ?_
  refine nx_iconst dX6_ownSlot_5 rfl ?_
  refine nx_istore [some (.ref w), some (.int a1), some (.int a2), some (.int (a1 * (iz 9))), some (.int (iz 0))] dX6_ownSlot_6 rfl (Nat.le_of_ble_eq_true rfl) rfl rfl ?_
  refine nx_seqS (Ca := fun e4 : Unit => .inl (58, [some (.ref w), some (.int a1), some (.int a2), some (.int (a1 * (iz 9))), none], [], (wW Γ M0 c f))) (Cb := fun r0 : Int32 => .inr (some (.int r0), (wW Γ M0 c f))) (nx_loop (C1 := fun s1 : Int32 => .inl (8, [some (.ref w), some (.int a1), some (.int a2), some (.int (a1 * (iz 9))), some (.int s1)], [], (wW Γ M0 c f))) (fun s1 => jW_ownSlot_8 hw hc f a1 a2 X Z s1) (iz 0)) (fun e4 => ?_) (fun r0 => ?_)
  · refine nx_iconst dX6_ownSlot_58 rfl ?_
    exact nx_iret dX6_ownSlot_59 rfl rfl
  · exact nx_leaf rfl
theorem cW_ownSlot (l : Launch) {Γ : nx_G} {M0 : nx_M} {w c : Nat} (hw : M0.1 w = some (.inr (6, [.ref c]))) (hc : w ≠ c) {u : Nat} {f : (Nat → Int32)} {a1 : Int32} {a2 : Int32} {r : Int32}  (h : fW_ownSlot u f a1 a2 = some r) : nx_Ct l Γ 1 yX6_ownSlot cX6_ownSlot 5 (some .int) [.ref w, .int a1, .int a2] (wW Γ M0 c f) (some (.int r), (wW Γ M0 c f)) :=
  nx_ct (out := fun r0 : Int32 => (some (.int r0), (wW Γ M0 c f))) [some (.ref w), some (.int a1), some (.int a2), none, none] pn_RX6 h (Nat.le_of_ble_eq_true rfl) rfl (fun X Z _ => jW_ownSlot hw hc u f a1 a2 X Z)
theorem dX6_isLate_0 : decode cX6_isLate 0 = .ok (.iload_n 1, 1) := by decide +kernel
theorem dX6_isLate_1 : decode cX6_isLate 1 = .ok (.bipush 9, 2) := by decide +kernel
theorem dX6_isLate_3 : decode cX6_isLate 3 = .ok (.imul, 1) := by decide +kernel
theorem dX6_isLate_4 : decode cX6_isLate 4 = .ok (.istore_n 3, 1) := by decide +kernel
theorem dX6_isLate_5 : decode cX6_isLate 5 = .ok (.iconst 0, 1) := by decide +kernel
theorem dX6_isLate_6 : decode cX6_isLate 6 = .ok (.istore 4, 2) := by decide +kernel
theorem dX6_isLate_8 : decode cX6_isLate 8 = .ok (.iload 4, 2) := by decide +kernel
theorem dX6_isLate_10 : decode cX6_isLate 10 = .ok (.bipush 9, 2) := by decide +kernel
theorem dX6_isLate_12 : decode cX6_isLate 12 = .ok (.if_icmp .ge 60, 3) := by decide +kernel
theorem dX6_isLate_15 : decode cX6_isLate 15 = .ok (.iload 4, 2) := by decide +kernel
theorem dX6_isLate_17 : decode cX6_isLate 17 = .ok (.aload_n 0, 1) := by decide +kernel
theorem dX6_isLate_18 : decode cX6_isLate 18 = .ok (.getfield 11, 3) := by decide +kernel
theorem dX6_isLate_21 : decode cX6_isLate 21 = .ok (.sipush 232, 3) := by decide +kernel
theorem dX6_isLate_24 : decode cX6_isLate 24 = .ok (.iload_n 1, 1) := by decide +kernel
theorem dX6_isLate_25 : decode cX6_isLate 25 = .ok (.iadd, 1) := by decide +kernel
theorem dX6_isLate_26 : decode cX6_isLate 26 = .ok (.iaload, 1) := by decide +kernel
theorem dX6_isLate_27 : decode cX6_isLate 27 = .ok (.if_icmp .ge 45, 3) := by decide +kernel
theorem dX6_isLate_30 : decode cX6_isLate 30 = .ok (.aload_n 0, 1) := by decide +kernel
theorem dX6_isLate_31 : decode cX6_isLate 31 = .ok (.getfield 11, 3) := by decide +kernel
theorem dX6_isLate_34 : decode cX6_isLate 34 = .ok (.sipush 238, 3) := by decide +kernel
theorem dX6_isLate_37 : decode cX6_isLate 37 = .ok (.iload_n 3, 1) := by decide +kernel
theorem dX6_isLate_38 : decode cX6_isLate 38 = .ok (.iadd, 1) := by decide +kernel
theorem dX6_isLate_39 : decode cX6_isLate 39 = .ok (.iload 4, 2) := by decide +kernel
theorem dX6_isLate_41 : decode cX6_isLate 41 = .ok (.iadd, 1) := by decide +kernel
theorem dX6_isLate_42 : decode cX6_isLate 42 = .ok (.iaload, 1) := by decide +kernel
theorem dX6_isLate_43 : decode cX6_isLate 43 = .ok (.iload_n 2, 1) := by decide +kernel
theorem dX6_isLate_44 : decode cX6_isLate 44 = .ok (.if_icmp .gt 22, 3) := by decide +kernel
theorem dX6_isLate_47 : decode cX6_isLate 47 = .ok (.aload_n 0, 1) := by decide +kernel
theorem dX6_isLate_48 : decode cX6_isLate 48 = .ok (.getfield 11, 3) := by decide +kernel
theorem dX6_isLate_51 : decode cX6_isLate 51 = .ok (.sipush 346, 3) := by decide +kernel
theorem dX6_isLate_54 : decode cX6_isLate 54 = .ok (.iload_n 3, 1) := by decide +kernel
theorem dX6_isLate_55 : decode cX6_isLate 55 = .ok (.iadd, 1) := by decide +kernel
theorem dX6_isLate_56 : decode cX6_isLate 56 = .ok (.iload 4, 2) := by decide +kernel
theorem dX6_isLate_58 : decode cX6_isLate 58 = .ok (.iadd, 1) := by decide +kernel
theorem dX6_isLate_59 : decode cX6_isLate 59 = .ok (.iaload, 1) := by decide +kernel
theorem dX6_isLate_60 : decode cX6_isLate 60 = .ok (.iload_n 2, 1) := by decide +kernel
theorem dX6_isLate_61 : decode cX6_isLate 61 = .ok (.if_icmp .le 5, 3) := by decide +kernel
theorem dX6_isLate_64 : decode cX6_isLate 64 = .ok (.iconst 1, 1) := by decide +kernel
theorem dX6_isLate_65 : decode cX6_isLate 65 = .ok (.ireturn, 1) := by decide +kernel
theorem dX6_isLate_66 : decode cX6_isLate 66 = .ok (.iinc 4 1, 3) := by decide +kernel
theorem dX6_isLate_69 : decode cX6_isLate 69 = .ok (.goto (-61), 3) := by decide +kernel
theorem dX6_isLate_72 : decode cX6_isLate 72 = .ok (.iconst 0, 1) := by decide +kernel
theorem dX6_isLate_73 : decode cX6_isLate 73 = .ok (.ireturn, 1) := by decide +kernel
def fW_isLate_8 (f : (Nat → Int32)) (a1 : Int32) (a2 : Int32) (s1 : Int32) : Option ((Int32) ⊕ ((Unit) ⊕ (Bool))) :=
  if (iz 9) ≤ s1 then
    some (.inr (.inl ()))
  else
    (nx_rd 514 f ((iz 232) + a1)).bind fun x2 =>
    if x2 ≤ s1 then
      some (.inr (.inl ()))
    else
      (nx_rd 514 f (((iz 238) + (a1 * (iz 9))) + s1)).bind fun x3 =>
      if a2 < x3 then
        some (.inl (s1 + iz 1))
      else
        (nx_rd 514 f (((iz 346) + (a1 * (iz 9))) + s1)).bind fun x4 =>
        if x4 ≤ a2 then
          some (.inl (s1 + iz 1))
        else
          some (.inr (.inr true))
def fW_isLate (u : Nat) (f : (Nat → Int32)) (a1 : Int32) (a2 : Int32) : Option (Bool) :=
  (nx_iter u (fW_isLate_8 f a1 a2) (iz 0)).bind (Sum.elim (fun e5 =>
    some false)
    (fun r0 => some r0))
set_option maxRecDepth 4000 in
theorem jW_isLate_8 {Γ : nx_G} {M0 : nx_M} {w c : Nat} (hw : M0.1 w = some (.inr (6, [.ref c]))) (hc : w ≠ c) (f : (Nat → Int32)) (a1 : Int32) (a2 : Int32)   (X : nx_X) (Z : nx_Z) (s1 : Int32) : nx_J Γ X (RX6, cX6_isLate, 5, (some .boolean), "isLate", 1) Z (Sum.elim (fun s1 : Int32 => .inl (8, [some (.ref w), some (.int a1), some (.int a2), some (.int (a1 * (iz 9))), some (.int s1)], [], (wW Γ M0 c f))) (Sum.elim (fun e5 : Unit => .inl (72, [some (.ref w), some (.int a1), some (.int a2), some (.int (a1 * (iz 9))), none], [], (wW Γ M0 c f))) (fun r0 : Bool => .inr (some (.int (bz r0)), (wW Γ M0 c f))))) (.inl (8, [some (.ref w), some (.int a1), some (.int a2), some (.int (a1 * (iz 9))), some (.int s1)], [], (wW Γ M0 c f))) (fW_isLate_8 f a1 a2 s1) := by
  unfold fW_isLate_8
  refine nx_iload rfl dX6_isLate_8 rfl ?_
  refine nx_bipush (by decide +kernel) dX6_isLate_10 rfl ?_
  refine nx_icmp_ge (t := 72) dX6_isLate_12 (by decide) rfl ?_ ?_
  · refine nx_weak (ls' := [some (.ref w), some (.int a1), some (.int a2), some (.int (a1 * (iz 9))), none]) (nx_wk_s (nx_wk_s (nx_wk_s (nx_wk_s (nx_wk_n nx_wk_e))))) ?_
    exact nx_leaf rfl
  · refine nx_iload rfl dX6_isLate_15 rfl ?_
    refine nx_aload_n rfl dX6_isLate_17 rfl ?_
    refine nx_getf fl_6_11 ((nx_put_ne hc).trans hw) rfl dX6_isLate_18 rfl ?_
    refine nx_sipush (by decide +kernel) dX6_isLate_21 rfl ?_
    refine nx_iload_n rfl dX6_isLate_24 rfl ?_
    refine nx_iadd dX6_isLate_25 rfl ?_
    refine nx_iald nx_put_self dX6_isLate_26 rfl (fun x2 => ?_)
    refine nx_icmp_ge (t := 72) dX6_isLate_27 (by decide) rfl ?_ ?_
    · refine nx_weak (ls' := [some (.ref w), some (.int a1), some (.int a2), some (.int (a1 * (iz 9))), none]) (nx_wk_s (nx_wk_s (nx_wk_s (nx_wk_s (nx_wk_n nx_wk_e))))) ?_
      exact nx_leaf rfl
    · refine nx_aload_n rfl dX6_isLate_30 rfl ?_
      refine nx_getf fl_6_11 ((nx_put_ne hc).trans hw) rfl dX6_isLate_31 rfl ?_
      refine nx_sipush (by decide +kernel) dX6_isLate_34 rfl ?_
      refine nx_iload_n rfl dX6_isLate_37 rfl ?_
      refine nx_iadd dX6_isLate_38 rfl ?_
      refine nx_iload rfl dX6_isLate_39 rfl ?_
      refine nx_iadd dX6_isLate_41 rfl ?_
      refine nx_iald nx_put_self dX6_isLate_42 rfl (fun x3 => ?_)
      refine nx_iload_n rfl dX6_isLate_43 rfl ?_
      refine nx_icmp_gt (t := 66) dX6_isLate_44 (by decide) rfl ?_ ?_
      · refine nx_iinc [some (.ref w), some (.int a1), some (.int a2), some (.int (a1 * (iz 9))), some (.int (s1 + iz 1))] dX6_isLate_66 rfl rfl (Nat.le_of_ble_eq_true rfl) rfl rfl ?_
        refine nx_goto (q := 8) dX6_isLate_69 (by decide) ?_
        exact nx_leaf rfl
      · refine nx_aload_n rfl dX6_isLate_47 rfl ?_
        refine nx_getf fl_6_11 ((nx_put_ne hc).trans hw) rfl dX6_isLate_48 rfl ?_
        refine nx_sipush (by decide +kernel) dX6_isLate_51 rfl ?_
        refine nx_iload_n rfl dX6_isLate_54 rfl ?_
        refine nx_iadd dX6_isLate_55 rfl ?_
        refine nx_iload rfl dX6_isLate_56 rfl ?_
        refine nx_iadd dX6_isLate_58 rfl ?_
        refine nx_iald nx_put_self dX6_isLate_59 rfl (fun x4 => ?_)
        refine nx_iload_n rfl dX6_isLate_60 rfl ?_
        refine nx_icmp_le (t := 66) dX6_isLate_61 (by decide) rfl ?_ ?_
        · refine nx_iinc [some (.ref w), some (.int a1), some (.int a2), some (.int (a1 * (iz 9))), some (.int (s1 + iz 1))] dX6_isLate_66 rfl rfl (Nat.le_of_ble_eq_true rfl) rfl rfl ?_
          refine nx_goto (q := 8) dX6_isLate_69 (by decide) ?_
          exact nx_leaf rfl
        · refine nx_iconst dX6_isLate_64 rfl ?_
          exact nx_zret (b := true) dX6_isLate_65 rfl rfl
set_option maxRecDepth 4000 in
theorem jW_isLate {Γ : nx_G} {M0 : nx_M} {w c : Nat} (hw : M0.1 w = some (.inr (6, [.ref c]))) (hc : w ≠ c) (u : Nat) (f : (Nat → Int32)) (a1 : Int32) (a2 : Int32)   (X : nx_X) (Z : nx_Z) : nx_J Γ X (RX6, cX6_isLate, 5, (some .boolean), "isLate", 1) Z (fun r0 : Bool => .inr (some (.int (bz r0)), (wW Γ M0 c f))) (.inl (0, [some (.ref w), some (.int a1), some (.int a2), none, none], [], (wW Γ M0 c f))) (fW_isLate u f a1 a2) := by
  unfold fW_isLate
  refine nx_iload_n rfl dX6_isLate_0 rfl ?_
  refine nx_bipush (by decide +kernel) dX6_isLate_1 rfl ?_
  refine nx_imul dX6_isLate_3 rfl ?_
  refine nx_istore_n [some (.ref w), some (.int a1), some (.int a2), some (.int (a1 * (iz 9))), none] dX6_isLate_4 rfl (Nat.le_of_ble_eq_true rfl) rfl rfl ?_
  refine nx_iconst dX6_isLate_5 rfl ?_
  refine nx_istore [some (.ref w), some (.int a1), some (.int a2), some (.int (a1 * (iz 9))), some (.int (iz 0))] dX6_isLate_6 rfl (Nat.le_of_ble_eq_true rfl) rfl rfl ?_
  refine nx_seqS (Ca := fun e5 : Unit => .inl (72, [some (.ref w), some (.int a1), some (.int a2), some (.int (a1 * (iz 9))), none], [], (wW Γ M0 c f))) (Cb := fun r0 : Bool => .inr (some (.int (bz r0)), (wW Γ M0 c f))) (nx_loop (C1 := fun s1 : Int32 => .inl (8, [some (.ref w), some (.int a1), some (.int a2), some (.int (a1 * (iz 9))), some (.int s1)], [], (wW Γ M0 c f))) (fun s1 => jW_isLate_8 hw hc f a1 a2 X Z s1) (iz 0)) (fun e5 => ?_) (fun r0 => ?_)
  · refine nx_iconst dX6_isLate_72 rfl ?_
    exact nx_zret (b := false) dX6_isLate_73 rfl rfl
  · exact nx_leaf rfl
theorem cW_isLate (l : Launch) {Γ : nx_G} {M0 : nx_M} {w c : Nat} (hw : M0.1 w = some (.inr (6, [.ref c]))) (hc : w ≠ c) {u : Nat} {f : (Nat → Int32)} {a1 : Int32} {a2 : Int32} {r : Bool}  (h : fW_isLate u f a1 a2 = some r) : nx_Ct l Γ 1 yX6_isLate cX6_isLate 5 (some .boolean) [.ref w, .int a1, .int a2] (wW Γ M0 c f) (some (.int (bz r)), (wW Γ M0 c f)) :=
  nx_ct (out := fun r0 : Bool => (some (.int (bz r0)), (wW Γ M0 c f))) [some (.ref w), some (.int a1), some (.int a2), none, none] pn_RX6 h (Nat.le_of_ble_eq_true rfl) rfl (fun X Z _ => jW_isLate hw hc u f a1 a2 X Z)
theorem dX6_isFull_0 : decode cX6_isFull 0 = .ok (.aload_n 0, 1) := by decide +kernel
theorem dX6_isFull_1 : decode cX6_isFull 1 = .ok (.getfield 11, 3) := by decide +kernel
theorem dX6_isFull_4 : decode cX6_isFull 4 = .ok (.sipush 232, 3) := by decide +kernel
theorem dX6_isFull_7 : decode cX6_isFull 7 = .ok (.iload_n 2, 1) := by decide +kernel
theorem dX6_isFull_8 : decode cX6_isFull 8 = .ok (.iadd, 1) := by decide +kernel
theorem dX6_isFull_9 : decode cX6_isFull 9 = .ok (.iaload, 1) := by decide +kernel
theorem dX6_isFull_10 : decode cX6_isFull 10 = .ok (.aload_n 0, 1) := by decide +kernel
theorem dX6_isFull_11 : decode cX6_isFull 11 = .ok (.getfield 11, 3) := by decide +kernel
theorem dX6_isFull_14 : decode cX6_isFull 14 = .ok (.iconst 0, 1) := by decide +kernel
theorem dX6_isFull_15 : decode cX6_isFull 15 = .ok (.iaload, 1) := by decide +kernel
theorem dX6_isFull_16 : decode cX6_isFull 16 = .ok (.if_icmp .lt 34, 3) := by decide +kernel
theorem dX6_isFull_19 : decode cX6_isFull 19 = .ok (.aload_n 0, 1) := by decide +kernel
theorem dX6_isFull_20 : decode cX6_isFull 20 = .ok (.iload_n 2, 1) := by decide +kernel
theorem dX6_isFull_21 : decode cX6_isFull 21 = .ok (.iload_n 1, 1) := by decide +kernel
theorem dX6_isFull_22 : decode cX6_isFull 22 = .ok (.invokevirtual 78, 3) := by decide +kernel
theorem dX6_isFull_25 : decode cX6_isFull 25 = .ok (.iconst (-1), 1) := by decide +kernel
theorem dX6_isFull_26 : decode cX6_isFull 26 = .ok (.if_icmp .ne 24, 3) := by decide +kernel
theorem dX6_isFull_29 : decode cX6_isFull 29 = .ok (.aload_n 0, 1) := by decide +kernel
theorem dX6_isFull_30 : decode cX6_isFull 30 = .ok (.iload_n 2, 1) := by decide +kernel
theorem dX6_isFull_31 : decode cX6_isFull 31 = .ok (.aload_n 0, 1) := by decide +kernel
theorem dX6_isFull_32 : decode cX6_isFull 32 = .ok (.getfield 11, 3) := by decide +kernel
theorem dX6_isFull_35 : decode cX6_isFull 35 = .ok (.bipush 48, 2) := by decide +kernel
theorem dX6_isFull_37 : decode cX6_isFull 37 = .ok (.iload_n 1, 1) := by decide +kernel
theorem dX6_isFull_38 : decode cX6_isFull 38 = .ok (.iadd, 1) := by decide +kernel
theorem dX6_isFull_39 : decode cX6_isFull 39 = .ok (.iaload, 1) := by decide +kernel
theorem dX6_isFull_40 : decode cX6_isFull 40 = .ok (.invokevirtual 81, 3) := by decide +kernel
theorem dX6_isFull_43 : decode cX6_isFull 43 = .ok (.ifCond .ne 7, 3) := by decide +kernel
theorem dX6_isFull_46 : decode cX6_isFull 46 = .ok (.iconst 1, 1) := by decide +kernel
theorem dX6_isFull_47 : decode cX6_isFull 47 = .ok (.goto 4, 3) := by decide +kernel
theorem dX6_isFull_50 : decode cX6_isFull 50 = .ok (.iconst 0, 1) := by decide +kernel
theorem dX6_isFull_51 : decode cX6_isFull 51 = .ok (.ireturn, 1) := by decide +kernel
def fW_isFull (u : Nat) (f : (Nat → Int32)) (a1 : Int32) (a2 : Int32) : Option (Bool) :=
  (nx_rd 514 f ((iz 232) + a2)).bind fun x1 =>
  (nx_rd 514 f (iz 0)).bind fun x2 =>
  if x1 < x2 then
    some false
  else
    (fW_ownSlot u f a2 a1).bind fun x3 =>
    if x3 = (iz (-1)) then
      (nx_rd 514 f ((iz 48) + a1)).bind fun x4 =>
      (fW_isLate u f a2 x4).bind fun b5 =>
      if b5 = true then
        some false
      else
        some true
    else
      some false
set_option maxRecDepth 4000 in
theorem jW_isFull {Γ : nx_G} {M0 : nx_M} {w c : Nat} (hw : M0.1 w = some (.inr (6, [.ref c]))) (hc : w ≠ c) (u : Nat) (f : (Nat → Int32)) (a1 : Int32) (a2 : Int32)   (X : nx_X) (Z : nx_Z) : nx_J Γ X (RX6, cX6_isFull, 3, (some .boolean), "isFull", 2) Z (fun r0 : Bool => .inr (some (.int (bz r0)), (wW Γ M0 c f))) (.inl (0, [some (.ref w), some (.int a1), some (.int a2)], [], (wW Γ M0 c f))) (fW_isFull u f a1 a2) := by
  unfold fW_isFull
  refine nx_aload_n rfl dX6_isFull_0 rfl ?_
  refine nx_getf fl_6_11 ((nx_put_ne hc).trans hw) rfl dX6_isFull_1 rfl ?_
  refine nx_sipush (by decide +kernel) dX6_isFull_4 rfl ?_
  refine nx_iload_n rfl dX6_isFull_7 rfl ?_
  refine nx_iadd dX6_isFull_8 rfl ?_
  refine nx_iald nx_put_self dX6_isFull_9 rfl (fun x1 => ?_)
  refine nx_aload_n rfl dX6_isFull_10 rfl ?_
  refine nx_getf fl_6_11 ((nx_put_ne hc).trans hw) rfl dX6_isFull_11 rfl ?_
  refine nx_iconst dX6_isFull_14 rfl ?_
  refine nx_iald nx_put_self dX6_isFull_15 rfl (fun x2 => ?_)
  refine nx_icmp_lt (t := 50) dX6_isFull_16 (by decide) rfl ?_ ?_
  · refine nx_iconst dX6_isFull_50 rfl ?_
    exact nx_zret (b := false) dX6_isFull_51 rfl rfl
  · refine nx_aload_n rfl dX6_isFull_19 rfl ?_
    refine nx_iload_n rfl dX6_isFull_20 rfl ?_
    refine nx_iload_n rfl dX6_isFull_21 rfl ?_
    refine nx_callVr [.int a2, .int a1] (fun r => .int r) (fun _ => (wW Γ M0 c f)) cw_6_78 cv_X6_ownSlot (fun r e => cW_ownSlot X.2.1 hw hc e) ((nx_put_ne hc).trans hw) rfl rfl (Nat.le_of_ble_eq_true rfl) (Nat.le_of_ble_eq_true rfl) dX6_isFull_22 rfl (fun x3 => ?_)
    refine nx_iconst dX6_isFull_25 rfl ?_
    refine nx_icmp_ne (t := 50) dX6_isFull_26 (by decide) rfl ?_ ?_
    · refine nx_iconst dX6_isFull_50 rfl ?_
      exact nx_zret (b := false) dX6_isFull_51 rfl rfl
    · refine nx_aload_n rfl dX6_isFull_29 rfl ?_
      refine nx_iload_n rfl dX6_isFull_30 rfl ?_
      refine nx_aload_n rfl dX6_isFull_31 rfl ?_
      refine nx_getf fl_6_11 ((nx_put_ne hc).trans hw) rfl dX6_isFull_32 rfl ?_
      refine nx_bipush (by decide +kernel) dX6_isFull_35 rfl ?_
      refine nx_iload_n rfl dX6_isFull_37 rfl ?_
      refine nx_iadd dX6_isFull_38 rfl ?_
      refine nx_iald nx_put_self dX6_isFull_39 rfl (fun x4 => ?_)
      refine nx_callVr [.int a2, .int x4] (fun r => .int (bz r)) (fun _ => (wW Γ M0 c f)) cw_6_81 cv_X6_isLate (fun r e => cW_isLate X.2.1 hw hc e) ((nx_put_ne hc).trans hw) rfl rfl (Nat.le_of_ble_eq_true rfl) (Nat.le_of_ble_eq_true rfl) dX6_isFull_40 rfl (fun b5 => ?_)
      refine nx_ifz_ne (t := 50) dX6_isFull_43 (by decide) rfl ?_ ?_
      · refine nx_iconst dX6_isFull_50 rfl ?_
        exact nx_zret (b := false) dX6_isFull_51 rfl rfl
      · refine nx_iconst dX6_isFull_46 rfl ?_
        refine nx_goto (q := 51) dX6_isFull_47 (by decide) ?_
        exact nx_zret (b := true) dX6_isFull_51 rfl rfl
theorem cW_isFull (l : Launch) {Γ : nx_G} {M0 : nx_M} {w c : Nat} (hw : M0.1 w = some (.inr (6, [.ref c]))) (hc : w ≠ c) {u : Nat} {f : (Nat → Int32)} {a1 : Int32} {a2 : Int32} {r : Bool}  (h : fW_isFull u f a1 a2 = some r) : nx_Ct l Γ 2 yX6_isFull cX6_isFull 3 (some .boolean) [.ref w, .int a1, .int a2] (wW Γ M0 c f) (some (.int (bz r)), (wW Γ M0 c f)) :=
  nx_ct (out := fun r0 : Bool => (some (.int (bz r0)), (wW Γ M0 c f))) [some (.ref w), some (.int a1), some (.int a2)] pn_RX6 h (Nat.le_of_ble_eq_true rfl) rfl (fun X Z _ => jW_isFull hw hc u f a1 a2 X Z)
theorem dX6_writeRefusal_0 : decode cX6_writeRefusal 0 = .ok (.aload_n 0, 1) := by decide +kernel
theorem dX6_writeRefusal_1 : decode cX6_writeRefusal 1 = .ok (.iload_n 2, 1) := by decide +kernel
theorem dX6_writeRefusal_2 : decode cX6_writeRefusal 2 = .ok (.invokevirtual 72, 3) := by decide +kernel
theorem dX6_writeRefusal_5 : decode cX6_writeRefusal 5 = .ok (.ifCond .eq 15, 3) := by decide +kernel
theorem dX6_writeRefusal_8 : decode cX6_writeRefusal 8 = .ok (.aload_n 0, 1) := by decide +kernel
theorem dX6_writeRefusal_9 : decode cX6_writeRefusal 9 = .ok (.getfield 11, 3) := by decide +kernel
theorem dX6_writeRefusal_12 : decode cX6_writeRefusal 12 = .ok (.bipush 40, 2) := by decide +kernel
theorem dX6_writeRefusal_14 : decode cX6_writeRefusal 14 = .ok (.iload_n 1, 1) := by decide +kernel
theorem dX6_writeRefusal_15 : decode cX6_writeRefusal 15 = .ok (.iadd, 1) := by decide +kernel
theorem dX6_writeRefusal_16 : decode cX6_writeRefusal 16 = .ok (.iaload, 1) := by decide +kernel
theorem dX6_writeRefusal_17 : decode cX6_writeRefusal 17 = .ok (.ifCond .ne 5, 3) := by decide +kernel
theorem dX6_writeRefusal_20 : decode cX6_writeRefusal 20 = .ok (.iconst 0, 1) := by decide +kernel
theorem dX6_writeRefusal_21 : decode cX6_writeRefusal 21 = .ok (.ireturn, 1) := by decide +kernel
theorem dX6_writeRefusal_22 : decode cX6_writeRefusal 22 = .ok (.iload_n 3, 1) := by decide +kernel
theorem dX6_writeRefusal_23 : decode cX6_writeRefusal 23 = .ok (.ifCond .lt 9, 3) := by decide +kernel
theorem dX6_writeRefusal_26 : decode cX6_writeRefusal 26 = .ok (.iload_n 3, 1) := by decide +kernel
theorem dX6_writeRefusal_27 : decode cX6_writeRefusal 27 = .ok (.bipush 99, 2) := by decide +kernel
theorem dX6_writeRefusal_29 : decode cX6_writeRefusal 29 = .ok (.if_icmp .le 5, 3) := by decide +kernel
theorem dX6_writeRefusal_32 : decode cX6_writeRefusal 32 = .ok (.iconst 1, 1) := by decide +kernel
theorem dX6_writeRefusal_33 : decode cX6_writeRefusal 33 = .ok (.ireturn, 1) := by decide +kernel
theorem dX6_writeRefusal_34 : decode cX6_writeRefusal 34 = .ok (.aload_n 0, 1) := by decide +kernel
theorem dX6_writeRefusal_35 : decode cX6_writeRefusal 35 = .ok (.getfield 11, 3) := by decide +kernel
theorem dX6_writeRefusal_38 : decode cX6_writeRefusal 38 = .ok (.bipush 40, 2) := by decide +kernel
theorem dX6_writeRefusal_40 : decode cX6_writeRefusal 40 = .ok (.iload_n 1, 1) := by decide +kernel
theorem dX6_writeRefusal_41 : decode cX6_writeRefusal 41 = .ok (.iadd, 1) := by decide +kernel
theorem dX6_writeRefusal_42 : decode cX6_writeRefusal 42 = .ok (.iaload, 1) := by decide +kernel
theorem dX6_writeRefusal_43 : decode cX6_writeRefusal 43 = .ok (.iconst 1, 1) := by decide +kernel
theorem dX6_writeRefusal_44 : decode cX6_writeRefusal 44 = .ok (.if_icmp .eq 5, 3) := by decide +kernel
theorem dX6_writeRefusal_47 : decode cX6_writeRefusal 47 = .ok (.iconst 2, 1) := by decide +kernel
theorem dX6_writeRefusal_48 : decode cX6_writeRefusal 48 = .ok (.ireturn, 1) := by decide +kernel
theorem dX6_writeRefusal_49 : decode cX6_writeRefusal 49 = .ok (.aload_n 0, 1) := by decide +kernel
theorem dX6_writeRefusal_50 : decode cX6_writeRefusal 50 = .ok (.iload_n 1, 1) := by decide +kernel
theorem dX6_writeRefusal_51 : decode cX6_writeRefusal 51 = .ok (.iload_n 2, 1) := by decide +kernel
theorem dX6_writeRefusal_52 : decode cX6_writeRefusal 52 = .ok (.invokevirtual 75, 3) := by decide +kernel
theorem dX6_writeRefusal_55 : decode cX6_writeRefusal 55 = .ok (.ifCond .eq 7, 3) := by decide +kernel
theorem dX6_writeRefusal_58 : decode cX6_writeRefusal 58 = .ok (.iconst 3, 1) := by decide +kernel
theorem dX6_writeRefusal_59 : decode cX6_writeRefusal 59 = .ok (.goto 4, 3) := by decide +kernel
theorem dX6_writeRefusal_62 : decode cX6_writeRefusal 62 = .ok (.iconst (-1), 1) := by decide +kernel
theorem dX6_writeRefusal_63 : decode cX6_writeRefusal 63 = .ok (.ireturn, 1) := by decide +kernel
def fW_writeRefusal (u : Nat) (f : (Nat → Int32)) (a1 : Int32) (a2 : Int32) (a3 : Int32) : Option (Int32) :=
  (fW_hasKey u f a2).bind fun b1 =>
  if b1 = true then
    (nx_rd 514 f ((iz 40) + a1)).bind fun x2 =>
    if x2 = iz 0 then
      some (iz 0)
    else
      if a3 < iz 0 then
        some (iz 1)
      else
        if a3 ≤ (iz 99) then
          (nx_rd 514 f ((iz 40) + a1)).bind fun x3 =>
          if x3 = (iz 1) then
            (fW_isFull u f a1 a2).bind fun b4 =>
            if b4 = true then
              some (iz 3)
            else
              some (iz (-1))
          else
            some (iz 2)
        else
          some (iz 1)
  else
    some (iz 0)
set_option maxRecDepth 4000 in
theorem jW_writeRefusal {Γ : nx_G} {M0 : nx_M} {w c : Nat} (hw : M0.1 w = some (.inr (6, [.ref c]))) (hc : w ≠ c) (u : Nat) (f : (Nat → Int32)) (a1 : Int32) (a2 : Int32) (a3 : Int32)   (X : nx_X) (Z : nx_Z) : nx_J Γ X (RX6, cX6_writeRefusal, 4, (some .int), "writeRefusal", 3) Z (fun r0 : Int32 => .inr (some (.int r0), (wW Γ M0 c f))) (.inl (0, [some (.ref w), some (.int a1), some (.int a2), some (.int a3)], [], (wW Γ M0 c f))) (fW_writeRefusal u f a1 a2 a3) := by
  unfold fW_writeRefusal
  refine nx_aload_n rfl dX6_writeRefusal_0 rfl ?_
  refine nx_iload_n rfl dX6_writeRefusal_1 rfl ?_
  refine nx_callVr [.int a2] (fun r => .int (bz r)) (fun _ => (wW Γ M0 c f)) cw_6_72 cv_X6_hasKey (fun r e => cW_hasKey X.2.1 hw hc e) ((nx_put_ne hc).trans hw) rfl rfl (Nat.le_of_ble_eq_true rfl) (Nat.le_of_ble_eq_true rfl) dX6_writeRefusal_2 rfl (fun b1 => ?_)
  refine nx_ifz_eq (t := 20) dX6_writeRefusal_5 (by decide) rfl ?_ ?_
  · refine nx_iconst dX6_writeRefusal_20 rfl ?_
    exact nx_iret dX6_writeRefusal_21 rfl rfl
  · refine nx_aload_n rfl dX6_writeRefusal_8 rfl ?_
    refine nx_getf fl_6_11 ((nx_put_ne hc).trans hw) rfl dX6_writeRefusal_9 rfl ?_
    refine nx_bipush (by decide +kernel) dX6_writeRefusal_12 rfl ?_
    refine nx_iload_n rfl dX6_writeRefusal_14 rfl ?_
    refine nx_iadd dX6_writeRefusal_15 rfl ?_
    refine nx_iald nx_put_self dX6_writeRefusal_16 rfl (fun x2 => ?_)
    refine nx_if_ne (t := 22) dX6_writeRefusal_17 (by decide) rfl ?_ ?_
    · refine nx_iload_n rfl dX6_writeRefusal_22 rfl ?_
      refine nx_if_lt (t := 32) dX6_writeRefusal_23 (by decide) rfl ?_ ?_
      · refine nx_iconst dX6_writeRefusal_32 rfl ?_
        exact nx_iret dX6_writeRefusal_33 rfl rfl
      · refine nx_iload_n rfl dX6_writeRefusal_26 rfl ?_
        refine nx_bipush (by decide +kernel) dX6_writeRefusal_27 rfl ?_
        refine nx_icmp_le (t := 34) dX6_writeRefusal_29 (by decide) rfl ?_ ?_
        · refine nx_aload_n rfl dX6_writeRefusal_34 rfl ?_
          refine nx_getf fl_6_11 ((nx_put_ne hc).trans hw) rfl dX6_writeRefusal_35 rfl ?_
          refine nx_bipush (by decide +kernel) dX6_writeRefusal_38 rfl ?_
          refine nx_iload_n rfl dX6_writeRefusal_40 rfl ?_
          refine nx_iadd dX6_writeRefusal_41 rfl ?_
          refine nx_iald nx_put_self dX6_writeRefusal_42 rfl (fun x3 => ?_)
          refine nx_iconst dX6_writeRefusal_43 rfl ?_
          refine nx_icmp_eq (t := 49) dX6_writeRefusal_44 (by decide) rfl ?_ ?_
          · refine nx_aload_n rfl dX6_writeRefusal_49 rfl ?_
            refine nx_iload_n rfl dX6_writeRefusal_50 rfl ?_
            refine nx_iload_n rfl dX6_writeRefusal_51 rfl ?_
            refine nx_callVr [.int a1, .int a2] (fun r => .int (bz r)) (fun _ => (wW Γ M0 c f)) cw_6_75 cv_X6_isFull (fun r e => cW_isFull X.2.1 hw hc e) ((nx_put_ne hc).trans hw) rfl rfl (Nat.le_of_ble_eq_true rfl) (Nat.le_of_ble_eq_true rfl) dX6_writeRefusal_52 rfl (fun b4 => ?_)
            refine nx_ifz_eq (t := 62) dX6_writeRefusal_55 (by decide) rfl ?_ ?_
            · refine nx_iconst dX6_writeRefusal_62 rfl ?_
              exact nx_iret dX6_writeRefusal_63 rfl rfl
            · refine nx_iconst dX6_writeRefusal_58 rfl ?_
              refine nx_goto (q := 63) dX6_writeRefusal_59 (by decide) ?_
              exact nx_iret dX6_writeRefusal_63 rfl rfl
          · refine nx_iconst dX6_writeRefusal_47 rfl ?_
            exact nx_iret dX6_writeRefusal_48 rfl rfl
        · refine nx_iconst dX6_writeRefusal_32 rfl ?_
          exact nx_iret dX6_writeRefusal_33 rfl rfl
    · refine nx_iconst dX6_writeRefusal_20 rfl ?_
      exact nx_iret dX6_writeRefusal_21 rfl rfl
theorem cW_writeRefusal (l : Launch) {Γ : nx_G} {M0 : nx_M} {w c : Nat} (hw : M0.1 w = some (.inr (6, [.ref c]))) (hc : w ≠ c) {u : Nat} {f : (Nat → Int32)} {a1 : Int32} {a2 : Int32} {a3 : Int32} {r : Int32}  (h : fW_writeRefusal u f a1 a2 a3 = some r) : nx_Ct l Γ 3 yX6_writeRefusal cX6_writeRefusal 4 (some .int) [.ref w, .int a1, .int a2, .int a3] (wW Γ M0 c f) (some (.int r), (wW Γ M0 c f)) :=
  nx_ct (out := fun r0 : Int32 => (some (.int r0), (wW Γ M0 c f))) [some (.ref w), some (.int a1), some (.int a2), some (.int a3)] pn_RX6 h (Nat.le_of_ble_eq_true rfl) rfl (fun X Z _ => jW_writeRefusal hw hc u f a1 a2 a3 X Z)
theorem dX6_retryRefusal_0 : decode cX6_retryRefusal 0 = .ok (.aload_n 0, 1) := by decide +kernel
theorem dX6_retryRefusal_1 : decode cX6_retryRefusal 1 = .ok (.iload_n 1, 1) := by decide +kernel
theorem dX6_retryRefusal_2 : decode cX6_retryRefusal 2 = .ok (.iconst 4, 1) := by decide +kernel
theorem dX6_retryRefusal_3 : decode cX6_retryRefusal 3 = .ok (.iconst 4, 1) := by decide +kernel
theorem dX6_retryRefusal_4 : decode cX6_retryRefusal 4 = .ok (.invokevirtual 55, 3) := by decide +kernel
theorem dX6_retryRefusal_7 : decode cX6_retryRefusal 7 = .ok (.istore_n 2, 1) := by decide +kernel
theorem dX6_retryRefusal_8 : decode cX6_retryRefusal 8 = .ok (.iload_n 2, 1) := by decide +kernel
theorem dX6_retryRefusal_9 : decode cX6_retryRefusal 9 = .ok (.iconst (-1), 1) := by decide +kernel
theorem dX6_retryRefusal_10 : decode cX6_retryRefusal 10 = .ok (.if_icmp .ne 14, 3) := by decide +kernel
theorem dX6_retryRefusal_13 : decode cX6_retryRefusal 13 = .ok (.aload_n 0, 1) := by decide +kernel
theorem dX6_retryRefusal_14 : decode cX6_retryRefusal 14 = .ok (.invokevirtual 66, 3) := by decide +kernel
theorem dX6_retryRefusal_17 : decode cX6_retryRefusal 17 = .ok (.ifCond .eq 7, 3) := by decide +kernel
theorem dX6_retryRefusal_20 : decode cX6_retryRefusal 20 = .ok (.iconst 3, 1) := by decide +kernel
theorem dX6_retryRefusal_21 : decode cX6_retryRefusal 21 = .ok (.goto 4, 3) := by decide +kernel
theorem dX6_retryRefusal_24 : decode cX6_retryRefusal 24 = .ok (.iload_n 2, 1) := by decide +kernel
theorem dX6_retryRefusal_25 : decode cX6_retryRefusal 25 = .ok (.ireturn, 1) := by decide +kernel
def fW_retryRefusal (u : Nat) (f : (Nat → Int32)) (a1 : Int32) : Option (Int32) :=
  (fW_stateRefusal u f a1 (iz 4) (iz 4)).bind fun x1 =>
  if x1 = (iz (-1)) then
    (fW_isClockFull u f).bind fun b2 =>
    if b2 = true then
      some (iz 3)
    else
      some x1
  else
    some x1
set_option maxRecDepth 4000 in
theorem jW_retryRefusal {Γ : nx_G} {M0 : nx_M} {w c : Nat} (hw : M0.1 w = some (.inr (6, [.ref c]))) (hc : w ≠ c) (u : Nat) (f : (Nat → Int32)) (a1 : Int32)   (X : nx_X) (Z : nx_Z) : nx_J Γ X (RX6, cX6_retryRefusal, 3, (some .int), "retryRefusal", 2) Z (fun r0 : Int32 => .inr (some (.int r0), (wW Γ M0 c f))) (.inl (0, [some (.ref w), some (.int a1), none], [], (wW Γ M0 c f))) (fW_retryRefusal u f a1) := by
  unfold fW_retryRefusal
  refine nx_aload_n rfl dX6_retryRefusal_0 rfl ?_
  refine nx_iload_n rfl dX6_retryRefusal_1 rfl ?_
  refine nx_iconst dX6_retryRefusal_2 rfl ?_
  refine nx_iconst dX6_retryRefusal_3 rfl ?_
  refine nx_callVr [.int a1, .int (iz 4), .int (iz 4)] (fun r => .int r) (fun _ => (wW Γ M0 c f)) cw_6_55 cv_X6_stateRefusal (fun r e => cW_stateRefusal X.2.1 hw hc e) ((nx_put_ne hc).trans hw) rfl rfl (Nat.le_of_ble_eq_true rfl) (Nat.le_of_ble_eq_true rfl) dX6_retryRefusal_4 rfl (fun x1 => ?_)
  refine nx_istore_n [some (.ref w), some (.int a1), some (.int x1)] dX6_retryRefusal_7 rfl (Nat.le_of_ble_eq_true rfl) rfl rfl ?_
  refine nx_iload_n rfl dX6_retryRefusal_8 rfl ?_
  refine nx_iconst dX6_retryRefusal_9 rfl ?_
  refine nx_icmp_ne (t := 24) dX6_retryRefusal_10 (by decide) rfl ?_ ?_
  · refine nx_iload_n rfl dX6_retryRefusal_24 rfl ?_
    exact nx_iret dX6_retryRefusal_25 rfl rfl
  · refine nx_aload_n rfl dX6_retryRefusal_13 rfl ?_
    refine nx_callVr [] (fun r => .int (bz r)) (fun _ => (wW Γ M0 c f)) cw_6_66 cv_X6_isClockFull (fun r e => cW_isClockFull X.2.1 hw hc e) ((nx_put_ne hc).trans hw) rfl rfl (Nat.le_of_ble_eq_true rfl) (Nat.le_of_ble_eq_true rfl) dX6_retryRefusal_14 rfl (fun b2 => ?_)
    refine nx_ifz_eq (t := 24) dX6_retryRefusal_17 (by decide) rfl ?_ ?_
    · refine nx_iload_n rfl dX6_retryRefusal_24 rfl ?_
      exact nx_iret dX6_retryRefusal_25 rfl rfl
    · refine nx_iconst dX6_retryRefusal_20 rfl ?_
      refine nx_goto (q := 25) dX6_retryRefusal_21 (by decide) ?_
      exact nx_iret dX6_retryRefusal_25 rfl rfl
theorem cW_retryRefusal (l : Launch) {Γ : nx_G} {M0 : nx_M} {w c : Nat} (hw : M0.1 w = some (.inr (6, [.ref c]))) (hc : w ≠ c) {u : Nat} {f : (Nat → Int32)} {a1 : Int32} {r : Int32}  (h : fW_retryRefusal u f a1 = some r) : nx_Ct l Γ 2 yX6_retryRefusal cX6_retryRefusal 3 (some .int) [.ref w, .int a1] (wW Γ M0 c f) (some (.int r), (wW Γ M0 c f)) :=
  nx_ct (out := fun r0 : Int32 => (some (.int r0), (wW Γ M0 c f))) [some (.ref w), some (.int a1), none] pn_RX6 h (Nat.le_of_ble_eq_true rfl) rfl (fun X Z _ => jW_retryRefusal hw hc u f a1 X Z)
theorem dX6_refusal_0 : decode cX6_refusal 0 = .ok (.aload_n 0, 1) := by decide +kernel
theorem dX6_refusal_1 : decode cX6_refusal 1 = .ok (.invokevirtual 37, 3) := by decide +kernel
theorem dX6_refusal_4 : decode cX6_refusal 4 = .ok (.ifCond .ne 5, 3) := by decide +kernel
theorem dX6_refusal_7 : decode cX6_refusal 7 = .ok (.iconst 0, 1) := by decide +kernel
theorem dX6_refusal_8 : decode cX6_refusal 8 = .ok (.ireturn, 1) := by decide +kernel
theorem dX6_refusal_9 : decode cX6_refusal 9 = .ok (.iload_n 1, 1) := by decide +kernel
theorem dX6_refusal_10 : decode cX6_refusal 10 = .ok (.iconst 5, 1) := by decide +kernel
theorem dX6_refusal_11 : decode cX6_refusal 11 = .ok (.if_icmp .ne 5, 3) := by decide +kernel
theorem dX6_refusal_14 : decode cX6_refusal 14 = .ok (.iconst (-1), 1) := by decide +kernel
theorem dX6_refusal_15 : decode cX6_refusal 15 = .ok (.ireturn, 1) := by decide +kernel
theorem dX6_refusal_16 : decode cX6_refusal 16 = .ok (.iload_n 2, 1) := by decide +kernel
theorem dX6_refusal_17 : decode cX6_refusal 17 = .ok (.bipush 8, 2) := by decide +kernel
theorem dX6_refusal_19 : decode cX6_refusal 19 = .ok (.invokestatic 33, 3) := by decide +kernel
theorem dX6_refusal_22 : decode cX6_refusal 22 = .ok (.ifCond .ne 5, 3) := by decide +kernel
theorem dX6_refusal_25 : decode cX6_refusal 25 = .ok (.iconst 0, 1) := by decide +kernel
theorem dX6_refusal_26 : decode cX6_refusal 26 = .ok (.ireturn, 1) := by decide +kernel
theorem dX6_refusal_27 : decode cX6_refusal 27 = .ok (.iload_n 1, 1) := by decide +kernel
theorem dX6_refusal_28 : decode cX6_refusal 28 = .ok (.tableswitch 102 0 7 #[48, 64, 71, 80, 88, 102, 55, 96], 48) := by decide +kernel
theorem dX6_refusal_76 : decode cX6_refusal 76 = .ok (.aload_n 0, 1) := by decide +kernel
theorem dX6_refusal_77 : decode cX6_refusal 77 = .ok (.iload_n 2, 1) := by decide +kernel
theorem dX6_refusal_78 : decode cX6_refusal 78 = .ok (.iload_n 3, 1) := by decide +kernel
theorem dX6_refusal_79 : decode cX6_refusal 79 = .ok (.invokevirtual 41, 3) := by decide +kernel
theorem dX6_refusal_82 : decode cX6_refusal 82 = .ok (.ireturn, 1) := by decide +kernel
theorem dX6_refusal_83 : decode cX6_refusal 83 = .ok (.aload_n 0, 1) := by decide +kernel
theorem dX6_refusal_84 : decode cX6_refusal 84 = .ok (.iload_n 2, 1) := by decide +kernel
theorem dX6_refusal_85 : decode cX6_refusal 85 = .ok (.iload_n 3, 1) := by decide +kernel
theorem dX6_refusal_86 : decode cX6_refusal 86 = .ok (.iload 4, 2) := by decide +kernel
theorem dX6_refusal_88 : decode cX6_refusal 88 = .ok (.invokevirtual 45, 3) := by decide +kernel
theorem dX6_refusal_91 : decode cX6_refusal 91 = .ok (.ireturn, 1) := by decide +kernel
theorem dX6_refusal_92 : decode cX6_refusal 92 = .ok (.aload_n 0, 1) := by decide +kernel
theorem dX6_refusal_93 : decode cX6_refusal 93 = .ok (.iload_n 2, 1) := by decide +kernel
theorem dX6_refusal_94 : decode cX6_refusal 94 = .ok (.iload_n 3, 1) := by decide +kernel
theorem dX6_refusal_95 : decode cX6_refusal 95 = .ok (.invokevirtual 49, 3) := by decide +kernel
theorem dX6_refusal_98 : decode cX6_refusal 98 = .ok (.ireturn, 1) := by decide +kernel
theorem dX6_refusal_99 : decode cX6_refusal 99 = .ok (.aload_n 0, 1) := by decide +kernel
theorem dX6_refusal_100 : decode cX6_refusal 100 = .ok (.iload_n 2, 1) := by decide +kernel
theorem dX6_refusal_101 : decode cX6_refusal 101 = .ok (.iload_n 3, 1) := by decide +kernel
theorem dX6_refusal_102 : decode cX6_refusal 102 = .ok (.iload 4, 2) := by decide +kernel
theorem dX6_refusal_104 : decode cX6_refusal 104 = .ok (.invokevirtual 52, 3) := by decide +kernel
theorem dX6_refusal_107 : decode cX6_refusal 107 = .ok (.ireturn, 1) := by decide +kernel
theorem dX6_refusal_108 : decode cX6_refusal 108 = .ok (.aload_n 0, 1) := by decide +kernel
theorem dX6_refusal_109 : decode cX6_refusal 109 = .ok (.iload_n 2, 1) := by decide +kernel
theorem dX6_refusal_110 : decode cX6_refusal 110 = .ok (.iconst 1, 1) := by decide +kernel
theorem dX6_refusal_111 : decode cX6_refusal 111 = .ok (.iconst 1, 1) := by decide +kernel
theorem dX6_refusal_112 : decode cX6_refusal 112 = .ok (.invokevirtual 55, 3) := by decide +kernel
theorem dX6_refusal_115 : decode cX6_refusal 115 = .ok (.ireturn, 1) := by decide +kernel
theorem dX6_refusal_116 : decode cX6_refusal 116 = .ok (.aload_n 0, 1) := by decide +kernel
theorem dX6_refusal_117 : decode cX6_refusal 117 = .ok (.iload_n 2, 1) := by decide +kernel
theorem dX6_refusal_118 : decode cX6_refusal 118 = .ok (.iconst 1, 1) := by decide +kernel
theorem dX6_refusal_119 : decode cX6_refusal 119 = .ok (.iconst 2, 1) := by decide +kernel
theorem dX6_refusal_120 : decode cX6_refusal 120 = .ok (.invokevirtual 55, 3) := by decide +kernel
theorem dX6_refusal_123 : decode cX6_refusal 123 = .ok (.ireturn, 1) := by decide +kernel
theorem dX6_refusal_124 : decode cX6_refusal 124 = .ok (.aload_n 0, 1) := by decide +kernel
theorem dX6_refusal_125 : decode cX6_refusal 125 = .ok (.iload_n 2, 1) := by decide +kernel
theorem dX6_refusal_126 : decode cX6_refusal 126 = .ok (.invokevirtual 58, 3) := by decide +kernel
theorem dX6_refusal_129 : decode cX6_refusal 129 = .ok (.ireturn, 1) := by decide +kernel
theorem dX6_refusal_130 : decode cX6_refusal 130 = .ok (.iconst 0, 1) := by decide +kernel
theorem dX6_refusal_131 : decode cX6_refusal 131 = .ok (.ireturn, 1) := by decide +kernel
def fW_refusal (u : Nat) (f : (Nat → Int32)) (a1 : Int32) (a2 : Int32) (a3 : Int32) (a4 : Int32) : Option (Int32) :=
  (fW_hasStore u f).bind fun b1 =>
  if b1 = true then
    if a1 = (iz 5) then
      some (iz (-1))
    else
      (fL_within u a2 (iz 8)).bind fun b2 =>
      if b2 = true then
        nx_sw a1 0 [
          ((fW_openRefusal u f a2 a3).bind fun x3 =>
          some x3),
          ((fW_readRefusal u f a2 a3).bind fun x4 =>
          some x4),
          ((fW_writeRefusal u f a2 a3 a4).bind fun x5 =>
          some x5),
          ((fW_stateRefusal u f a2 (iz 1) (iz 1)).bind fun x6 =>
          some x6),
          ((fW_stateRefusal u f a2 (iz 1) (iz 2)).bind fun x7 =>
          some x7),
          (some (iz 0)),
          ((fW_handRefusal u f a2 a3 a4).bind fun x8 =>
          some x8),
          ((fW_retryRefusal u f a2).bind fun x9 =>
          some x9) ]
          (some (iz 0))
      else
        some (iz 0)
  else
    some (iz 0)
set_option maxRecDepth 4000 in
theorem jW_refusal {Γ : nx_G} {M0 : nx_M} {w c : Nat} (hw : M0.1 w = some (.inr (6, [.ref c]))) (hc : w ≠ c) (u : Nat) (f : (Nat → Int32)) (a1 : Int32) (a2 : Int32) (a3 : Int32) (a4 : Int32)   (X : nx_X) (Z : nx_Z) : nx_J Γ X (RX6, cX6_refusal, 5, (some .int), "refusal", 4) Z (fun r0 : Int32 => .inr (some (.int r0), (wW Γ M0 c f))) (.inl (0, [some (.ref w), some (.int a1), some (.int a2), some (.int a3), some (.int a4)], [], (wW Γ M0 c f))) (fW_refusal u f a1 a2 a3 a4) := by
  unfold fW_refusal
  refine nx_aload_n rfl dX6_refusal_0 rfl ?_
  refine nx_callVr [] (fun r => .int (bz r)) (fun _ => (wW Γ M0 c f)) cw_6_37 cv_X6_hasStore (fun r e => cW_hasStore X.2.1 hw hc e) ((nx_put_ne hc).trans hw) rfl rfl (Nat.le_of_ble_eq_true rfl) (Nat.le_of_ble_eq_true rfl) dX6_refusal_1 rfl (fun b1 => ?_)
  refine nx_ifz_ne (t := 9) dX6_refusal_4 (by decide) rfl ?_ ?_
  · refine nx_iload_n rfl dX6_refusal_9 rfl ?_
    refine nx_iconst dX6_refusal_10 rfl ?_
    refine nx_icmp_ne (t := 16) dX6_refusal_11 (by decide) rfl ?_ ?_
    · refine nx_iload_n rfl dX6_refusal_16 rfl ?_
      refine nx_bipush (by decide +kernel) dX6_refusal_17 rfl ?_
      refine nx_callSr [.int a2, .int (iz 8)] (fun r => .int (bz r)) (fun _ => (wW Γ M0 c f)) cw_6_33 wd_442 (fun r e => cL_within X.2.1  e) rfl rfl (Nat.le_of_ble_eq_true rfl) (Nat.le_of_ble_eq_true rfl) dX6_refusal_19 rfl (fun b2 => ?_)
      refine nx_ifz_ne (t := 27) dX6_refusal_22 (by decide) rfl ?_ ?_
      · refine nx_iload_n rfl dX6_refusal_27 rfl ?_
        refine nx_tsw (td := 130) dX6_refusal_28 rfl (by decide) ?_ ?_
        · refine nx_iconst dX6_refusal_130 rfl ?_
          exact nx_iret dX6_refusal_131 rfl rfl
        refine nx_swl_c 76 (by decide) ?_ ?_
        · refine nx_aload_n rfl dX6_refusal_76 rfl ?_
          refine nx_iload_n rfl dX6_refusal_77 rfl ?_
          refine nx_iload_n rfl dX6_refusal_78 rfl ?_
          refine nx_callVr [.int a2, .int a3] (fun r => .int r) (fun _ => (wW Γ M0 c f)) cw_6_41 cv_X6_openRefusal (fun r e => cW_openRefusal X.2.1 hw hc e) ((nx_put_ne hc).trans hw) rfl rfl (Nat.le_of_ble_eq_true rfl) (Nat.le_of_ble_eq_true rfl) dX6_refusal_79 rfl (fun x3 => ?_)
          exact nx_iret dX6_refusal_82 rfl rfl
        refine nx_swl_c 92 (by decide) ?_ ?_
        · refine nx_aload_n rfl dX6_refusal_92 rfl ?_
          refine nx_iload_n rfl dX6_refusal_93 rfl ?_
          refine nx_iload_n rfl dX6_refusal_94 rfl ?_
          refine nx_callVr [.int a2, .int a3] (fun r => .int r) (fun _ => (wW Γ M0 c f)) cw_6_49 cv_X6_readRefusal (fun r e => cW_readRefusal X.2.1 hw hc e) ((nx_put_ne hc).trans hw) rfl rfl (Nat.le_of_ble_eq_true rfl) (Nat.le_of_ble_eq_true rfl) dX6_refusal_95 rfl (fun x4 => ?_)
          exact nx_iret dX6_refusal_98 rfl rfl
        refine nx_swl_c 99 (by decide) ?_ ?_
        · refine nx_aload_n rfl dX6_refusal_99 rfl ?_
          refine nx_iload_n rfl dX6_refusal_100 rfl ?_
          refine nx_iload_n rfl dX6_refusal_101 rfl ?_
          refine nx_iload rfl dX6_refusal_102 rfl ?_
          refine nx_callVr [.int a2, .int a3, .int a4] (fun r => .int r) (fun _ => (wW Γ M0 c f)) cw_6_52 cv_X6_writeRefusal (fun r e => cW_writeRefusal X.2.1 hw hc e) ((nx_put_ne hc).trans hw) rfl rfl (Nat.le_of_ble_eq_true rfl) (Nat.le_of_ble_eq_true rfl) dX6_refusal_104 rfl (fun x5 => ?_)
          exact nx_iret dX6_refusal_107 rfl rfl
        refine nx_swl_c 108 (by decide) ?_ ?_
        · refine nx_aload_n rfl dX6_refusal_108 rfl ?_
          refine nx_iload_n rfl dX6_refusal_109 rfl ?_
          refine nx_iconst dX6_refusal_110 rfl ?_
          refine nx_iconst dX6_refusal_111 rfl ?_
          refine nx_callVr [.int a2, .int (iz 1), .int (iz 1)] (fun r => .int r) (fun _ => (wW Γ M0 c f)) cw_6_55 cv_X6_stateRefusal (fun r e => cW_stateRefusal X.2.1 hw hc e) ((nx_put_ne hc).trans hw) rfl rfl (Nat.le_of_ble_eq_true rfl) (Nat.le_of_ble_eq_true rfl) dX6_refusal_112 rfl (fun x6 => ?_)
          exact nx_iret dX6_refusal_115 rfl rfl
        refine nx_swl_c 116 (by decide) ?_ ?_
        · refine nx_aload_n rfl dX6_refusal_116 rfl ?_
          refine nx_iload_n rfl dX6_refusal_117 rfl ?_
          refine nx_iconst dX6_refusal_118 rfl ?_
          refine nx_iconst dX6_refusal_119 rfl ?_
          refine nx_callVr [.int a2, .int (iz 1), .int (iz 2)] (fun r => .int r) (fun _ => (wW Γ M0 c f)) cw_6_55 cv_X6_stateRefusal (fun r e => cW_stateRefusal X.2.1 hw hc e) ((nx_put_ne hc).trans hw) rfl rfl (Nat.le_of_ble_eq_true rfl) (Nat.le_of_ble_eq_true rfl) dX6_refusal_120 rfl (fun x7 => ?_)
          exact nx_iret dX6_refusal_123 rfl rfl
        refine nx_swl_c 130 (by decide) ?_ ?_
        · refine nx_iconst dX6_refusal_130 rfl ?_
          exact nx_iret dX6_refusal_131 rfl rfl
        refine nx_swl_c 83 (by decide) ?_ ?_
        · refine nx_aload_n rfl dX6_refusal_83 rfl ?_
          refine nx_iload_n rfl dX6_refusal_84 rfl ?_
          refine nx_iload_n rfl dX6_refusal_85 rfl ?_
          refine nx_iload rfl dX6_refusal_86 rfl ?_
          refine nx_callVr [.int a2, .int a3, .int a4] (fun r => .int r) (fun _ => (wW Γ M0 c f)) cw_6_45 cv_X6_handRefusal (fun r e => cW_handRefusal X.2.1 hw hc e) ((nx_put_ne hc).trans hw) rfl rfl (Nat.le_of_ble_eq_true rfl) (Nat.le_of_ble_eq_true rfl) dX6_refusal_88 rfl (fun x8 => ?_)
          exact nx_iret dX6_refusal_91 rfl rfl
        refine nx_swl_c 124 (by decide) ?_ ?_
        · refine nx_aload_n rfl dX6_refusal_124 rfl ?_
          refine nx_iload_n rfl dX6_refusal_125 rfl ?_
          refine nx_callVr [.int a2] (fun r => .int r) (fun _ => (wW Γ M0 c f)) cw_6_58 cv_X6_retryRefusal (fun r e => cW_retryRefusal X.2.1 hw hc e) ((nx_put_ne hc).trans hw) rfl rfl (Nat.le_of_ble_eq_true rfl) (Nat.le_of_ble_eq_true rfl) dX6_refusal_126 rfl (fun x9 => ?_)
          exact nx_iret dX6_refusal_129 rfl rfl
        exact nx_swl_e
      · refine nx_iconst dX6_refusal_25 rfl ?_
        exact nx_iret dX6_refusal_26 rfl rfl
    · refine nx_iconst dX6_refusal_14 rfl ?_
      exact nx_iret dX6_refusal_15 rfl rfl
  · refine nx_iconst dX6_refusal_7 rfl ?_
    exact nx_iret dX6_refusal_8 rfl rfl
theorem cW_refusal (l : Launch) {Γ : nx_G} {M0 : nx_M} {w c : Nat} (hw : M0.1 w = some (.inr (6, [.ref c]))) (hc : w ≠ c) {u : Nat} {f : (Nat → Int32)} {a1 : Int32} {a2 : Int32} {a3 : Int32} {a4 : Int32} {r : Int32}  (h : fW_refusal u f a1 a2 a3 a4 = some r) : nx_Ct l Γ 4 yX6_refusal cX6_refusal 5 (some .int) [.ref w, .int a1, .int a2, .int a3, .int a4] (wW Γ M0 c f) (some (.int r), (wW Γ M0 c f)) :=
  nx_ct (out := fun r0 : Int32 => (some (.int r0), (wW Γ M0 c f))) [some (.ref w), some (.int a1), some (.int a2), some (.int a3), some (.int a4)] pn_RX6 h (Nat.le_of_ble_eq_true rfl) rfl (fun X Z _ => jW_refusal hw hc u f a1 a2 a3 a4 X Z)
theorem dX6_ticked_0 : decode cX6_ticked 0 = .ok (.aload_n 0, 1) := by decide +kernel
theorem dX6_ticked_1 : decode cX6_ticked 1 = .ok (.getfield 11, 3) := by decide +kernel
theorem dX6_ticked_4 : decode cX6_ticked 4 = .ok (.iconst 4, 1) := by decide +kernel
theorem dX6_ticked_5 : decode cX6_ticked 5 = .ok (.dup2, 1) := by decide +kernel
theorem dX6_ticked_6 : decode cX6_ticked 6 = .ok (.iaload, 1) := by decide +kernel
theorem dX6_ticked_7 : decode cX6_ticked 7 = .ok (.aload_n 0, 1) := by decide +kernel
theorem dX6_ticked_8 : decode cX6_ticked 8 = .ok (.getfield 11, 3) := by decide +kernel
theorem dX6_ticked_11 : decode cX6_ticked 11 = .ok (.iconst 2, 1) := by decide +kernel
theorem dX6_ticked_12 : decode cX6_ticked 12 = .ok (.iaload, 1) := by decide +kernel
theorem dX6_ticked_13 : decode cX6_ticked 13 = .ok (.iadd, 1) := by decide +kernel
theorem dX6_ticked_14 : decode cX6_ticked 14 = .ok (.iastore, 1) := by decide +kernel
theorem dX6_ticked_15 : decode cX6_ticked 15 = .ok (.aload_n 0, 1) := by decide +kernel
theorem dX6_ticked_16 : decode cX6_ticked 16 = .ok (.getfield 11, 3) := by decide +kernel
theorem dX6_ticked_19 : decode cX6_ticked 19 = .ok (.iconst 4, 1) := by decide +kernel
theorem dX6_ticked_20 : decode cX6_ticked 20 = .ok (.iaload, 1) := by decide +kernel
theorem dX6_ticked_21 : decode cX6_ticked 21 = .ok (.ireturn, 1) := by decide +kernel
def fW_ticked (u : Nat) (f : (Nat → Int32)) : Option (Int32 × (Nat → Int32)) :=
  (nx_rd 514 f (iz 4)).bind fun x1 =>
  (nx_rd 514 f (iz 2)).bind fun x2 =>
  (nx_wr 514 f (iz 4) (x1 + x2)).bind fun f3 =>
  (nx_rd 514 f3 (iz 4)).bind fun x4 =>
  some (x4, f3)
set_option maxRecDepth 4000 in
theorem jW_ticked {Γ : nx_G} {M0 : nx_M} {w c : Nat} (hw : M0.1 w = some (.inr (6, [.ref c]))) (hc : w ≠ c) (u : Nat) (f : (Nat → Int32))   (X : nx_X) (Z : nx_Z) : nx_J Γ X (RX6, cX6_ticked, 1, (some .int), "ticked", 1) Z (fun r0 : Int32 × (Nat → Int32) => .inr (some (.int r0.1), (wW Γ M0 c r0.2))) (.inl (0, [some (.ref w)], [], (wW Γ M0 c f))) (fW_ticked u f) := by
  unfold fW_ticked
  refine nx_aload_n rfl dX6_ticked_0 rfl ?_
  refine nx_getf fl_6_11 ((nx_put_ne hc).trans hw) rfl dX6_ticked_1 rfl ?_
  refine nx_iconst dX6_ticked_4 rfl ?_
  refine nx_dup2 rfl rfl dX6_ticked_5 rfl ?_
  refine nx_iald nx_put_self dX6_ticked_6 rfl (fun x1 => ?_)
  refine nx_aload_n rfl dX6_ticked_7 rfl ?_
  refine nx_getf fl_6_11 ((nx_put_ne hc).trans hw) rfl dX6_ticked_8 rfl ?_
  refine nx_iconst dX6_ticked_11 rfl ?_
  refine nx_iald nx_put_self dX6_ticked_12 rfl (fun x2 => ?_)
  refine nx_iadd dX6_ticked_13 rfl ?_
  refine w_iast dX6_ticked_14 rfl (fun f3 => ?_)
  refine nx_aload_n rfl dX6_ticked_15 rfl ?_
  refine nx_getf fl_6_11 ((nx_put_ne hc).trans hw) rfl dX6_ticked_16 rfl ?_
  refine nx_iconst dX6_ticked_19 rfl ?_
  refine nx_iald nx_put_self dX6_ticked_20 rfl (fun x4 => ?_)
  exact nx_iret dX6_ticked_21 rfl rfl
theorem cW_ticked (l : Launch) {Γ : nx_G} {M0 : nx_M} {w c : Nat} (hw : M0.1 w = some (.inr (6, [.ref c]))) (hc : w ≠ c) {u : Nat} {f : (Nat → Int32)} {r : Int32 × (Nat → Int32)}  (h : fW_ticked u f = some r) : nx_Ct l Γ 1 yX6_ticked cX6_ticked 1 (some .int) [.ref w] (wW Γ M0 c f) (some (.int r.1), (wW Γ M0 c r.2)) :=
  nx_ct (out := fun r0 : Int32 × (Nat → Int32) => (some (.int r0.1), (wW Γ M0 c r0.2))) [some (.ref w)] pn_RX6 h (Nat.le_of_ble_eq_true rfl) rfl (fun X Z _ => jW_ticked hw hc u f X Z)
theorem dX6_note_0 : decode cX6_note 0 = .ok (.aload_n 0, 1) := by decide +kernel
theorem dX6_note_1 : decode cX6_note 1 = .ok (.getfield 11, 3) := by decide +kernel
theorem dX6_note_4 : decode cX6_note 4 = .ok (.bipush 9, 2) := by decide +kernel
theorem dX6_note_6 : decode cX6_note 6 = .ok (.iaload, 1) := by decide +kernel
theorem dX6_note_7 : decode cX6_note 7 = .ok (.istore 4, 2) := by decide +kernel
theorem dX6_note_9 : decode cX6_note 9 = .ok (.iload 4, 2) := by decide +kernel
theorem dX6_note_11 : decode cX6_note 11 = .ok (.bipush 60, 2) := by decide +kernel
theorem dX6_note_13 : decode cX6_note 13 = .ok (.invokestatic 33, 3) := by decide +kernel
theorem dX6_note_16 : decode cX6_note 16 = .ok (.ifCond .ne 4, 3) := by decide +kernel
theorem dX6_note_19 : decode cX6_note 19 = .ok (.return_, 1) := by decide +kernel
theorem dX6_note_20 : decode cX6_note 20 = .ok (.aload_n 0, 1) := by decide +kernel
theorem dX6_note_21 : decode cX6_note 21 = .ok (.getfield 11, 3) := by decide +kernel
theorem dX6_note_24 : decode cX6_note 24 = .ok (.sipush 454, 3) := by decide +kernel
theorem dX6_note_27 : decode cX6_note 27 = .ok (.iload 4, 2) := by decide +kernel
theorem dX6_note_29 : decode cX6_note 29 = .ok (.iadd, 1) := by decide +kernel
theorem dX6_note_30 : decode cX6_note 30 = .ok (.iload_n 1, 1) := by decide +kernel
theorem dX6_note_31 : decode cX6_note 31 = .ok (.iload_n 2, 1) := by decide +kernel
theorem dX6_note_32 : decode cX6_note 32 = .ok (.iconst 1, 1) := by decide +kernel
theorem dX6_note_33 : decode cX6_note 33 = .ok (.iadd, 1) := by decide +kernel
theorem dX6_note_34 : decode cX6_note 34 = .ok (.iconst 3, 1) := by decide +kernel
theorem dX6_note_35 : decode cX6_note 35 = .ok (.ishl, 1) := by decide +kernel
theorem dX6_note_36 : decode cX6_note 36 = .ok (.ior, 1) := by decide +kernel
theorem dX6_note_37 : decode cX6_note 37 = .ok (.iload_n 3, 1) := by decide +kernel
theorem dX6_note_38 : decode cX6_note 38 = .ok (.iconst 2, 1) := by decide +kernel
theorem dX6_note_39 : decode cX6_note 39 = .ok (.iadd, 1) := by decide +kernel
theorem dX6_note_40 : decode cX6_note 40 = .ok (.bipush 7, 2) := by decide +kernel
theorem dX6_note_42 : decode cX6_note 42 = .ok (.ishl, 1) := by decide +kernel
theorem dX6_note_43 : decode cX6_note 43 = .ok (.ior, 1) := by decide +kernel
theorem dX6_note_44 : decode cX6_note 44 = .ok (.iastore, 1) := by decide +kernel
theorem dX6_note_45 : decode cX6_note 45 = .ok (.aload_n 0, 1) := by decide +kernel
theorem dX6_note_46 : decode cX6_note 46 = .ok (.getfield 11, 3) := by decide +kernel
theorem dX6_note_49 : decode cX6_note 49 = .ok (.bipush 9, 2) := by decide +kernel
theorem dX6_note_51 : decode cX6_note 51 = .ok (.iload 4, 2) := by decide +kernel
theorem dX6_note_53 : decode cX6_note 53 = .ok (.iconst 1, 1) := by decide +kernel
theorem dX6_note_54 : decode cX6_note 54 = .ok (.iadd, 1) := by decide +kernel
theorem dX6_note_55 : decode cX6_note 55 = .ok (.bipush 60, 2) := by decide +kernel
theorem dX6_note_57 : decode cX6_note 57 = .ok (.if_icmp .ge 10, 3) := by decide +kernel
theorem dX6_note_60 : decode cX6_note 60 = .ok (.iload 4, 2) := by decide +kernel
theorem dX6_note_62 : decode cX6_note 62 = .ok (.iconst 1, 1) := by decide +kernel
theorem dX6_note_63 : decode cX6_note 63 = .ok (.iadd, 1) := by decide +kernel
theorem dX6_note_64 : decode cX6_note 64 = .ok (.goto 4, 3) := by decide +kernel
theorem dX6_note_67 : decode cX6_note 67 = .ok (.iconst 0, 1) := by decide +kernel
theorem dX6_note_68 : decode cX6_note 68 = .ok (.iastore, 1) := by decide +kernel
theorem dX6_note_69 : decode cX6_note 69 = .ok (.aload_n 0, 1) := by decide +kernel
theorem dX6_note_70 : decode cX6_note 70 = .ok (.getfield 11, 3) := by decide +kernel
theorem dX6_note_73 : decode cX6_note 73 = .ok (.bipush 8, 2) := by decide +kernel
theorem dX6_note_75 : decode cX6_note 75 = .ok (.aload_n 0, 1) := by decide +kernel
theorem dX6_note_76 : decode cX6_note 76 = .ok (.getfield 11, 3) := by decide +kernel
theorem dX6_note_79 : decode cX6_note 79 = .ok (.bipush 8, 2) := by decide +kernel
theorem dX6_note_81 : decode cX6_note 81 = .ok (.iaload, 1) := by decide +kernel
theorem dX6_note_82 : decode cX6_note 82 = .ok (.iconst 1, 1) := by decide +kernel
theorem dX6_note_83 : decode cX6_note 83 = .ok (.iadd, 1) := by decide +kernel
theorem dX6_note_84 : decode cX6_note 84 = .ok (.bipush 60, 2) := by decide +kernel
theorem dX6_note_86 : decode cX6_note 86 = .ok (.invokestatic 124, 3) := by decide +kernel
theorem dX6_note_89 : decode cX6_note 89 = .ok (.iastore, 1) := by decide +kernel
theorem dX6_note_90 : decode cX6_note 90 = .ok (.return_, 1) := by decide +kernel
def fW_note (u : Nat) (f : (Nat → Int32)) (a1 : Int32) (a2 : Int32) (a3 : Int32) : Option ((Nat → Int32)) :=
  (nx_rd 514 f (iz 9)).bind fun x1 =>
  (fL_within u x1 (iz 60)).bind fun b2 =>
  if b2 = true then
    (nx_wr 514 f ((iz 454) + x1) ((a1 ||| ((a2 + (iz 1)) <<< ((iz 3) &&& 31))) ||| ((a3 + (iz 2)) <<< ((iz 7) &&& 31)))).bind fun f3 =>
    (if (iz 60) ≤ (x1 + (iz 1)) then
       some (iz 0)
     else
       some (x1 + (iz 1)) : Option (Int32)).bind fun s4 =>
    (nx_wr 514 f3 (iz 9) s4).bind fun f5 =>
    (nx_rd 514 f5 (iz 8)).bind fun x6 =>
    (nx_wr 514 f5 (iz 8) (if (iz 60) < (x6 + (iz 1)) then (iz 60) else (x6 + (iz 1)))).bind fun f7 =>
    some f7
  else
    some f
set_option maxRecDepth 4000 in
theorem jW_note {Γ : nx_G} {M0 : nx_M} {w c : Nat} (hw : M0.1 w = some (.inr (6, [.ref c]))) (hc : w ≠ c) (u : Nat) (f : (Nat → Int32)) (a1 : Int32) (a2 : Int32) (a3 : Int32)   (X : nx_X) (Z : nx_Z) : nx_J Γ X (RX6, cX6_note, 5, none, "note", 2) Z (fun r0 : (Nat → Int32) => .inr (none, (wW Γ M0 c r0))) (.inl (0, [some (.ref w), some (.int a1), some (.int a2), some (.int a3), none], [], (wW Γ M0 c f))) (fW_note u f a1 a2 a3) := by
  unfold fW_note
  refine nx_aload_n rfl dX6_note_0 rfl ?_
  refine nx_getf fl_6_11 ((nx_put_ne hc).trans hw) rfl dX6_note_1 rfl ?_
  refine nx_bipush (by decide +kernel) dX6_note_4 rfl ?_
  refine nx_iald nx_put_self dX6_note_6 rfl (fun x1 => ?_)
  refine nx_istore [some (.ref w), some (.int a1), some (.int a2), some (.int a3), some (.int x1)] dX6_note_7 rfl (Nat.le_of_ble_eq_true rfl) rfl rfl ?_
  refine nx_iload rfl dX6_note_9 rfl ?_
  refine nx_bipush (by decide +kernel) dX6_note_11 rfl ?_
  refine nx_callSr [.int x1, .int (iz 60)] (fun r => .int (bz r)) (fun _ => (wW Γ M0 c f)) cw_6_33 wd_442 (fun r e => cL_within X.2.1  e) rfl rfl (Nat.le_of_ble_eq_true rfl) (Nat.le_of_ble_eq_true rfl) dX6_note_13 rfl (fun b2 => ?_)
  refine nx_ifz_ne (t := 20) dX6_note_16 (by decide) rfl ?_ ?_
  · refine nx_aload_n rfl dX6_note_20 rfl ?_
    refine nx_getf fl_6_11 ((nx_put_ne hc).trans hw) rfl dX6_note_21 rfl ?_
    refine nx_sipush (by decide +kernel) dX6_note_24 rfl ?_
    refine nx_iload rfl dX6_note_27 rfl ?_
    refine nx_iadd dX6_note_29 rfl ?_
    refine nx_iload_n rfl dX6_note_30 rfl ?_
    refine nx_iload_n rfl dX6_note_31 rfl ?_
    refine nx_iconst dX6_note_32 rfl ?_
    refine nx_iadd dX6_note_33 rfl ?_
    refine nx_iconst dX6_note_34 rfl ?_
    refine nx_ishl dX6_note_35 rfl ?_
    refine nx_ior dX6_note_36 rfl ?_
    refine nx_iload_n rfl dX6_note_37 rfl ?_
    refine nx_iconst dX6_note_38 rfl ?_
    refine nx_iadd dX6_note_39 rfl ?_
    refine nx_bipush (by decide +kernel) dX6_note_40 rfl ?_
    refine nx_ishl dX6_note_42 rfl ?_
    refine nx_ior dX6_note_43 rfl ?_
    refine w_iast dX6_note_44 rfl (fun f3 => ?_)
    refine nx_aload_n rfl dX6_note_45 rfl ?_
    refine nx_getf fl_6_11 ((nx_put_ne hc).trans hw) rfl dX6_note_46 rfl ?_
    refine nx_bipush (by decide +kernel) dX6_note_49 rfl ?_
    refine nx_iload rfl dX6_note_51 rfl ?_
    refine nx_iconst dX6_note_53 rfl ?_
    refine nx_iadd dX6_note_54 rfl ?_
    refine nx_bipush (by decide +kernel) dX6_note_55 rfl ?_
    refine nx_seq (C1 := fun s4 : Int32 => .inl (68, [some (.ref w), some (.int a1), some (.int a2), some (.int a3), some (.int x1)], [.int s4, .int (iz 9), .ref c], (wW Γ M0 c f3))) ?_ (fun s4 => ?_)
    · refine nx_icmp_ge (t := 67) dX6_note_57 (by decide) rfl ?_ ?_
      · refine nx_iconst dX6_note_67 rfl ?_
        exact nx_leaf rfl
      · refine nx_iload rfl dX6_note_60 rfl ?_
        refine nx_iconst dX6_note_62 rfl ?_
        refine nx_iadd dX6_note_63 rfl ?_
        refine nx_goto (q := 68) dX6_note_64 (by decide) ?_
        exact nx_leaf rfl
    refine w_iast dX6_note_68 rfl (fun f5 => ?_)
    refine nx_aload_n rfl dX6_note_69 rfl ?_
    refine nx_getf fl_6_11 ((nx_put_ne hc).trans hw) rfl dX6_note_70 rfl ?_
    refine nx_bipush (by decide +kernel) dX6_note_73 rfl ?_
    refine nx_aload_n rfl dX6_note_75 rfl ?_
    refine nx_getf fl_6_11 ((nx_put_ne hc).trans hw) rfl dX6_note_76 rfl ?_
    refine nx_bipush (by decide +kernel) dX6_note_79 rfl ?_
    refine nx_iald nx_put_self dX6_note_81 rfl (fun x6 => ?_)
    refine nx_iconst dX6_note_82 rfl ?_
    refine nx_iadd dX6_note_83 rfl ?_
    refine nx_bipush (by decide +kernel) dX6_note_84 rfl ?_
    refine nx_min wd_663 wd_645 wd_206 wd_646 (Nat.le_of_ble_eq_true rfl) (Nat.le_of_ble_eq_true rfl) dX6_note_86 rfl ?_
    refine w_iast dX6_note_89 rfl (fun f7 => ?_)
    exact nx_vret dX6_note_90 rfl rfl
  · exact nx_vret dX6_note_19 rfl rfl
theorem cW_note (l : Launch) {Γ : nx_G} {M0 : nx_M} {w c : Nat} (hw : M0.1 w = some (.inr (6, [.ref c]))) (hc : w ≠ c) {u : Nat} {f : (Nat → Int32)} {a1 : Int32} {a2 : Int32} {a3 : Int32} {r : (Nat → Int32)}  (h : fW_note u f a1 a2 a3 = some r) : nx_Ct l Γ 2 yX6_note cX6_note 5 none [.ref w, .int a1, .int a2, .int a3] (wW Γ M0 c f) (none, (wW Γ M0 c r)) :=
  nx_ct (out := fun r0 : (Nat → Int32) => (none, (wW Γ M0 c r0))) [some (.ref w), some (.int a1), some (.int a2), some (.int a3), none] pn_RX6 h (Nat.le_of_ble_eq_true rfl) rfl (fun X Z _ => jW_note hw hc u f a1 a2 a3 X Z)
theorem dX6_enter_0 : decode cX6_enter 0 = .ok (.aload_n 0, 1) := by decide +kernel
theorem dX6_enter_1 : decode cX6_enter 1 = .ok (.getfield 11, 3) := by decide +kernel
theorem dX6_enter_4 : decode cX6_enter 4 = .ok (.bipush 40, 2) := by decide +kernel
theorem dX6_enter_6 : decode cX6_enter 6 = .ok (.iload_n 1, 1) := by decide +kernel
theorem dX6_enter_7 : decode cX6_enter 7 = .ok (.iadd, 1) := by decide +kernel
theorem dX6_enter_8 : decode cX6_enter 8 = .ok (.iconst 1, 1) := by decide +kernel
theorem dX6_enter_9 : decode cX6_enter 9 = .ok (.iastore, 1) := by decide +kernel
theorem dX6_enter_10 : decode cX6_enter 10 = .ok (.aload_n 0, 1) := by decide +kernel
theorem dX6_enter_11 : decode cX6_enter 11 = .ok (.getfield 11, 3) := by decide +kernel
theorem dX6_enter_14 : decode cX6_enter 14 = .ok (.bipush 48, 2) := by decide +kernel
theorem dX6_enter_16 : decode cX6_enter 16 = .ok (.iload_n 1, 1) := by decide +kernel
theorem dX6_enter_17 : decode cX6_enter 17 = .ok (.iadd, 1) := by decide +kernel
theorem dX6_enter_18 : decode cX6_enter 18 = .ok (.iload_n 3, 1) := by decide +kernel
theorem dX6_enter_19 : decode cX6_enter 19 = .ok (.iastore, 1) := by decide +kernel
theorem dX6_enter_20 : decode cX6_enter 20 = .ok (.aload_n 0, 1) := by decide +kernel
theorem dX6_enter_21 : decode cX6_enter 21 = .ok (.getfield 11, 3) := by decide +kernel
theorem dX6_enter_24 : decode cX6_enter 24 = .ok (.bipush 56, 2) := by decide +kernel
theorem dX6_enter_26 : decode cX6_enter 26 = .ok (.iload_n 1, 1) := by decide +kernel
theorem dX6_enter_27 : decode cX6_enter 27 = .ok (.iadd, 1) := by decide +kernel
theorem dX6_enter_28 : decode cX6_enter 28 = .ok (.iload_n 2, 1) := by decide +kernel
theorem dX6_enter_29 : decode cX6_enter 29 = .ok (.iastore, 1) := by decide +kernel
theorem dX6_enter_30 : decode cX6_enter 30 = .ok (.aload_n 0, 1) := by decide +kernel
theorem dX6_enter_31 : decode cX6_enter 31 = .ok (.getfield 11, 3) := by decide +kernel
theorem dX6_enter_34 : decode cX6_enter 34 = .ok (.bipush 64, 2) := by decide +kernel
theorem dX6_enter_36 : decode cX6_enter 36 = .ok (.iload_n 1, 1) := by decide +kernel
theorem dX6_enter_37 : decode cX6_enter 37 = .ok (.iadd, 1) := by decide +kernel
theorem dX6_enter_38 : decode cX6_enter 38 = .ok (.iconst 0, 1) := by decide +kernel
theorem dX6_enter_39 : decode cX6_enter 39 = .ok (.iastore, 1) := by decide +kernel
theorem dX6_enter_40 : decode cX6_enter 40 = .ok (.aload_n 0, 1) := by decide +kernel
theorem dX6_enter_41 : decode cX6_enter 41 = .ok (.getfield 11, 3) := by decide +kernel
theorem dX6_enter_44 : decode cX6_enter 44 = .ok (.bipush 72, 2) := by decide +kernel
theorem dX6_enter_46 : decode cX6_enter 46 = .ok (.iload_n 1, 1) := by decide +kernel
theorem dX6_enter_47 : decode cX6_enter 47 = .ok (.iadd, 1) := by decide +kernel
theorem dX6_enter_48 : decode cX6_enter 48 = .ok (.iconst 0, 1) := by decide +kernel
theorem dX6_enter_49 : decode cX6_enter 49 = .ok (.iastore, 1) := by decide +kernel
theorem dX6_enter_50 : decode cX6_enter 50 = .ok (.aload_n 0, 1) := by decide +kernel
theorem dX6_enter_51 : decode cX6_enter 51 = .ok (.getfield 11, 3) := by decide +kernel
theorem dX6_enter_54 : decode cX6_enter 54 = .ok (.bipush 80, 2) := by decide +kernel
theorem dX6_enter_56 : decode cX6_enter 56 = .ok (.iload_n 1, 1) := by decide +kernel
theorem dX6_enter_57 : decode cX6_enter 57 = .ok (.iadd, 1) := by decide +kernel
theorem dX6_enter_58 : decode cX6_enter 58 = .ok (.iconst 0, 1) := by decide +kernel
theorem dX6_enter_59 : decode cX6_enter 59 = .ok (.iastore, 1) := by decide +kernel
theorem dX6_enter_60 : decode cX6_enter 60 = .ok (.iconst 0, 1) := by decide +kernel
theorem dX6_enter_61 : decode cX6_enter 61 = .ok (.istore 4, 2) := by decide +kernel
theorem dX6_enter_63 : decode cX6_enter 63 = .ok (.iload 4, 2) := by decide +kernel
theorem dX6_enter_65 : decode cX6_enter 65 = .ok (.bipush 6, 2) := by decide +kernel
theorem dX6_enter_67 : decode cX6_enter 67 = .ok (.if_icmp .ge 26, 3) := by decide +kernel
theorem dX6_enter_70 : decode cX6_enter 70 = .ok (.aload_n 0, 1) := by decide +kernel
theorem dX6_enter_71 : decode cX6_enter 71 = .ok (.getfield 11, 3) := by decide +kernel
theorem dX6_enter_74 : decode cX6_enter 74 = .ok (.sipush 184, 3) := by decide +kernel
theorem dX6_enter_77 : decode cX6_enter 77 = .ok (.iload_n 1, 1) := by decide +kernel
theorem dX6_enter_78 : decode cX6_enter 78 = .ok (.bipush 6, 2) := by decide +kernel
theorem dX6_enter_80 : decode cX6_enter 80 = .ok (.imul, 1) := by decide +kernel
theorem dX6_enter_81 : decode cX6_enter 81 = .ok (.iadd, 1) := by decide +kernel
theorem dX6_enter_82 : decode cX6_enter 82 = .ok (.iload 4, 2) := by decide +kernel
theorem dX6_enter_84 : decode cX6_enter 84 = .ok (.iadd, 1) := by decide +kernel
theorem dX6_enter_85 : decode cX6_enter 85 = .ok (.iconst (-1), 1) := by decide +kernel
theorem dX6_enter_86 : decode cX6_enter 86 = .ok (.iastore, 1) := by decide +kernel
theorem dX6_enter_87 : decode cX6_enter 87 = .ok (.iinc 4 1, 3) := by decide +kernel
theorem dX6_enter_90 : decode cX6_enter 90 = .ok (.goto (-27), 3) := by decide +kernel
theorem dX6_enter_93 : decode cX6_enter 93 = .ok (.aload_n 0, 1) := by decide +kernel
theorem dX6_enter_94 : decode cX6_enter 94 = .ok (.iconst 0, 1) := by decide +kernel
theorem dX6_enter_95 : decode cX6_enter 95 = .ok (.iload_n 1, 1) := by decide +kernel
theorem dX6_enter_96 : decode cX6_enter 96 = .ok (.iload_n 3, 1) := by decide +kernel
theorem dX6_enter_97 : decode cX6_enter 97 = .ok (.invokevirtual 115, 3) := by decide +kernel
theorem dX6_enter_100 : decode cX6_enter 100 = .ok (.return_, 1) := by decide +kernel
def fW_enter_63 (a1 : Int32) (s7 : Int32 × (Nat → Int32)) : Option ((Int32 × (Nat → Int32)) ⊕ ((Nat → Int32))) :=
  if (iz 6) ≤ s7.1 then
    some (.inr s7.2)
  else
    (nx_wr 514 s7.2 (((iz 184) + (a1 * (iz 6))) + s7.1) (iz (-1))).bind fun f8 =>
    some (.inl ((s7.1 + iz 1), f8))
def fW_enter (u : Nat) (f : (Nat → Int32)) (a1 : Int32) (a2 : Int32) (a3 : Int32) : Option ((Nat → Int32)) :=
  (nx_wr 514 f ((iz 40) + a1) (iz 1)).bind fun f1 =>
  (nx_wr 514 f1 ((iz 48) + a1) a3).bind fun f2 =>
  (nx_wr 514 f2 ((iz 56) + a1) a2).bind fun f3 =>
  (nx_wr 514 f3 ((iz 64) + a1) (iz 0)).bind fun f4 =>
  (nx_wr 514 f4 ((iz 72) + a1) (iz 0)).bind fun f5 =>
  (nx_wr 514 f5 ((iz 80) + a1) (iz 0)).bind fun f6 =>
  (nx_iter u (fW_enter_63 a1) ((iz 0), f6)).bind fun e9 =>
  (fW_note u e9 (iz 0) a1 a3).bind fun g10 =>
  some g10
set_option maxRecDepth 4000 in
theorem jW_enter_63 {Γ : nx_G} {M0 : nx_M} {w c : Nat} (hw : M0.1 w = some (.inr (6, [.ref c]))) (hc : w ≠ c) (a1 : Int32) (a2 : Int32) (a3 : Int32)   (X : nx_X) (Z : nx_Z) (s7 : Int32 × (Nat → Int32)) : nx_J Γ X (RX6, cX6_enter, 5, none, "enter", 3) Z (Sum.elim (fun s7 : Int32 × (Nat → Int32) => .inl (63, [some (.ref w), some (.int a1), some (.int a2), some (.int a3), some (.int s7.1)], [], (wW Γ M0 c s7.2))) (fun e9 : (Nat → Int32) => .inl (93, [some (.ref w), some (.int a1), some (.int a2), some (.int a3), none], [], (wW Γ M0 c e9)))) (.inl (63, [some (.ref w), some (.int a1), some (.int a2), some (.int a3), some (.int s7.1)], [], (wW Γ M0 c s7.2))) (fW_enter_63 a1 s7) := by
  unfold fW_enter_63
  refine nx_iload rfl dX6_enter_63 rfl ?_
  refine nx_bipush (by decide +kernel) dX6_enter_65 rfl ?_
  refine nx_icmp_ge (t := 93) dX6_enter_67 (by decide) rfl ?_ ?_
  · refine nx_weak (ls' := [some (.ref w), some (.int a1), some (.int a2), some (.int a3), none]) (nx_wk_s (nx_wk_s (nx_wk_s (nx_wk_s (nx_wk_n nx_wk_e))))) ?_
    obtain ⟨_, _⟩ := s7
    exact nx_leaf rfl
  · refine nx_aload_n rfl dX6_enter_70 rfl ?_
    refine nx_getf fl_6_11 ((nx_put_ne hc).trans hw) rfl dX6_enter_71 rfl ?_
    refine nx_sipush (by decide +kernel) dX6_enter_74 rfl ?_
    refine nx_iload_n rfl dX6_enter_77 rfl ?_
    refine nx_bipush (by decide +kernel) dX6_enter_78 rfl ?_
    refine nx_imul dX6_enter_80 rfl ?_
    refine nx_iadd dX6_enter_81 rfl ?_
    refine nx_iload rfl dX6_enter_82 rfl ?_
    refine nx_iadd dX6_enter_84 rfl ?_
    refine nx_iconst dX6_enter_85 rfl ?_
    refine w_iast dX6_enter_86 rfl (fun f8 => ?_)
    refine nx_iinc [some (.ref w), some (.int a1), some (.int a2), some (.int a3), some (.int (s7.1 + iz 1))] dX6_enter_87 rfl rfl (Nat.le_of_ble_eq_true rfl) rfl rfl ?_
    refine nx_goto (q := 63) dX6_enter_90 (by decide) ?_
    obtain ⟨_, _⟩ := s7
    exact nx_leaf rfl
set_option maxRecDepth 4000 in
theorem jW_enter {Γ : nx_G} {M0 : nx_M} {w c : Nat} (hw : M0.1 w = some (.inr (6, [.ref c]))) (hc : w ≠ c) (u : Nat) (f : (Nat → Int32)) (a1 : Int32) (a2 : Int32) (a3 : Int32)   (X : nx_X) (Z : nx_Z) : nx_J Γ X (RX6, cX6_enter, 5, none, "enter", 3) Z (fun r0 : (Nat → Int32) => .inr (none, (wW Γ M0 c r0))) (.inl (0, [some (.ref w), some (.int a1), some (.int a2), some (.int a3), none], [], (wW Γ M0 c f))) (fW_enter u f a1 a2 a3) := by
  unfold fW_enter
  refine nx_aload_n rfl dX6_enter_0 rfl ?_
  refine nx_getf fl_6_11 ((nx_put_ne hc).trans hw) rfl dX6_enter_1 rfl ?_
  refine nx_bipush (by decide +kernel) dX6_enter_4 rfl ?_
  refine nx_iload_n rfl dX6_enter_6 rfl ?_
  refine nx_iadd dX6_enter_7 rfl ?_
  refine nx_iconst dX6_enter_8 rfl ?_
  refine w_iast dX6_enter_9 rfl (fun f1 => ?_)
  refine nx_aload_n rfl dX6_enter_10 rfl ?_
  refine nx_getf fl_6_11 ((nx_put_ne hc).trans hw) rfl dX6_enter_11 rfl ?_
  refine nx_bipush (by decide +kernel) dX6_enter_14 rfl ?_
  refine nx_iload_n rfl dX6_enter_16 rfl ?_
  refine nx_iadd dX6_enter_17 rfl ?_
  refine nx_iload_n rfl dX6_enter_18 rfl ?_
  refine w_iast dX6_enter_19 rfl (fun f2 => ?_)
  refine nx_aload_n rfl dX6_enter_20 rfl ?_
  refine nx_getf fl_6_11 ((nx_put_ne hc).trans hw) rfl dX6_enter_21 rfl ?_
  refine nx_bipush (by decide +kernel) dX6_enter_24 rfl ?_
  refine nx_iload_n rfl dX6_enter_26 rfl ?_
  refine nx_iadd dX6_enter_27 rfl ?_
  refine nx_iload_n rfl dX6_enter_28 rfl ?_
  refine w_iast dX6_enter_29 rfl (fun f3 => ?_)
  refine nx_aload_n rfl dX6_enter_30 rfl ?_
  refine nx_getf fl_6_11 ((nx_put_ne hc).trans hw) rfl dX6_enter_31 rfl ?_
  refine nx_bipush (by decide +kernel) dX6_enter_34 rfl ?_
  refine nx_iload_n rfl dX6_enter_36 rfl ?_
  refine nx_iadd dX6_enter_37 rfl ?_
  refine nx_iconst dX6_enter_38 rfl ?_
  refine w_iast dX6_enter_39 rfl (fun f4 => ?_)
  refine nx_aload_n rfl dX6_enter_40 rfl ?_
  refine nx_getf fl_6_11 ((nx_put_ne hc).trans hw) rfl dX6_enter_41 rfl ?_
  refine nx_bipush (by decide +kernel) dX6_enter_44 rfl ?_
  refine nx_iload_n rfl dX6_enter_46 rfl ?_
  refine nx_iadd dX6_enter_47 rfl ?_
  refine nx_iconst dX6_enter_48 rfl ?_
  refine w_iast dX6_enter_49 rfl (fun f5 => ?_)
  refine nx_aload_n rfl dX6_enter_50 rfl ?_
  refine nx_getf fl_6_11 ((nx_put_ne hc).trans hw) rfl dX6_enter_51 rfl ?_
  refine nx_bipush (by decide +kernel) dX6_enter_54 rfl ?_
  refine nx_iload_n rfl dX6_enter_56 rfl ?_
  refine nx_iadd dX6_enter_57 rfl ?_
  refine nx_iconst dX6_enter_58 rfl ?_
  refine w_iast dX6_enter_59 rfl (fun f6 => ?_)
  refine nx_iconst dX6_enter_60 rfl ?_
  refine nx_istore [some (.ref w), some (.int a1), some (.int a2), some (.int a3), some (.int (iz 0))] dX6_enter_61 rfl (Nat.le_of_ble_eq_true rfl) rfl rfl ?_
  refine nx_seq (C1 := fun e9 : (Nat → Int32) => .inl (93, [some (.ref w), some (.int a1), some (.int a2), some (.int a3), none], [], (wW Γ M0 c e9))) (nx_loop (C1 := fun s7 : Int32 × (Nat → Int32) => .inl (63, [some (.ref w), some (.int a1), some (.int a2), some (.int a3), some (.int s7.1)], [], (wW Γ M0 c s7.2))) (fun s7 => jW_enter_63 hw hc a1 a2 a3 X Z s7) ((iz 0), f6)) (fun e9 => ?_)
  refine nx_aload_n rfl dX6_enter_93 rfl ?_
  refine nx_iconst dX6_enter_94 rfl ?_
  refine nx_iload_n rfl dX6_enter_95 rfl ?_
  refine nx_iload_n rfl dX6_enter_96 rfl ?_
  refine nx_callVv [.int (iz 0), .int a1, .int a3] (fun r => (wW Γ M0 c r)) cw_6_115 cv_X6_note (fun r e => cW_note X.2.1 hw hc e) ((nx_put_ne hc).trans hw) rfl rfl (Nat.le_of_ble_eq_true rfl) (Nat.le_of_ble_eq_true rfl) dX6_enter_97 rfl (fun g10 => ?_)
  exact nx_vret dX6_enter_100 rfl rfl
theorem cW_enter (l : Launch) {Γ : nx_G} {M0 : nx_M} {w c : Nat} (hw : M0.1 w = some (.inr (6, [.ref c]))) (hc : w ≠ c) {u : Nat} {f : (Nat → Int32)} {a1 : Int32} {a2 : Int32} {a3 : Int32} {r : (Nat → Int32)}  (h : fW_enter u f a1 a2 a3 = some r) : nx_Ct l Γ 3 yX6_enter cX6_enter 5 none [.ref w, .int a1, .int a2, .int a3] (wW Γ M0 c f) (none, (wW Γ M0 c r)) :=
  nx_ct (out := fun r0 : (Nat → Int32) => (none, (wW Γ M0 c r0))) [some (.ref w), some (.int a1), some (.int a2), some (.int a3), none] pn_RX6 h (Nat.le_of_ble_eq_true rfl) rfl (fun X Z _ => jW_enter hw hc u f a1 a2 a3 X Z)
