theorem dX7_readBy_0 : decode cX7_readBy 0 = .ok (.iload_n 1, 1) := by decide +kernel
theorem dX7_readBy_1 : decode cX7_readBy 1 = .ok (.bipush 8, 2) := by decide +kernel
theorem dX7_readBy_3 : decode cX7_readBy 3 = .ok (.invokestatic 114, 3) := by decide +kernel
theorem dX7_readBy_6 : decode cX7_readBy 6 = .ok (.ifCond .eq 25, 3) := by decide +kernel
theorem dX7_readBy_9 : decode cX7_readBy 9 = .ok (.aload_n 0, 1) := by decide +kernel
theorem dX7_readBy_10 : decode cX7_readBy 10 = .ok (.getfield 37, 3) := by decide +kernel
theorem dX7_readBy_13 : decode cX7_readBy 13 = .ok (.iload_n 2, 1) := by decide +kernel
theorem dX7_readBy_14 : decode cX7_readBy 14 = .ok (.invokevirtual 137, 3) := by decide +kernel
theorem dX7_readBy_17 : decode cX7_readBy 17 = .ok (.ifCond .eq 14, 3) := by decide +kernel
theorem dX7_readBy_20 : decode cX7_readBy 20 = .ok (.aload_n 0, 1) := by decide +kernel
theorem dX7_readBy_21 : decode cX7_readBy 21 = .ok (.getfield 37, 3) := by decide +kernel
theorem dX7_readBy_24 : decode cX7_readBy 24 = .ok (.iload_n 1, 1) := by decide +kernel
theorem dX7_readBy_25 : decode cX7_readBy 25 = .ok (.invokevirtual 128, 3) := by decide +kernel
theorem dX7_readBy_28 : decode cX7_readBy 28 = .ok (.ifCond .ne 5, 3) := by decide +kernel
theorem dX7_readBy_31 : decode cX7_readBy 31 = .ok (.iconst (-1), 1) := by decide +kernel
theorem dX7_readBy_32 : decode cX7_readBy 32 = .ok (.ireturn, 1) := by decide +kernel
theorem dX7_readBy_33 : decode cX7_readBy 33 = .ok (.aload_n 0, 1) := by decide +kernel
theorem dX7_readBy_34 : decode cX7_readBy 34 = .ok (.getfield 37, 3) := by decide +kernel
theorem dX7_readBy_37 : decode cX7_readBy 37 = .ok (.iload_n 1, 1) := by decide +kernel
theorem dX7_readBy_38 : decode cX7_readBy 38 = .ok (.iload_n 2, 1) := by decide +kernel
theorem dX7_readBy_39 : decode cX7_readBy 39 = .ok (.invokevirtual 141, 3) := by decide +kernel
theorem dX7_readBy_42 : decode cX7_readBy 42 = .ok (.ireturn, 1) := by decide +kernel
def fC_readBy (u : Nat) (Γ : nx_G) (D : nx_M) (x : Nat) (a1 : Int32) (a2 : Int32) : Option (Int32) :=
  (fL_within u a1 (iz 8)).bind fun b1 =>
  if b1 = true then
    (gR D x 7 5).bind fun q2 =>
    (wRd Γ D q2 (fun f => fW_hasKey u f a2)).bind fun b3 =>
    if b3 = true then
      (gR D x 7 5).bind fun q4 =>
      (wRd Γ D q4 (fun f => fW_stateOf u f a1)).bind fun x5 =>
      if x5 = iz 0 then
        some (iz (-1))
      else
        (gR D x 7 5).bind fun q6 =>
        (wRd Γ D q6 (fun f => fW_lastRead u f a1 a2)).bind fun x7 =>
        some x7
    else
      some (iz (-1))
  else
    some (iz (-1))
set_option maxRecDepth 4000 in
theorem jC_readBy {Γ : nx_G} {M0 : Nat → Option va_E} (u : Nat) (D : nx_M) (x : Nat) (a1 : Int32) (a2 : Int32)   (X : nx_X) (Z : nx_Z) : nx_J Γ X (RX7, cX7_readBy, 3, (some .int), "readBy", 3) Z (fun r0 : Int32 => .inr (some (.int r0), (ov M0 D))) (.inl (0, [some (.ref x), some (.int a1), some (.int a2)], [], (ov M0 D))) (fC_readBy u Γ D x a1 a2) := by
  unfold fC_readBy
  refine nx_iload_n rfl dX7_readBy_0 rfl ?_
  refine nx_bipush (by decide +kernel) dX7_readBy_1 rfl ?_
  refine nx_callSr [.int a1, .int (iz 8)] (fun r => .int (bz r)) (fun _ => (ov M0 D)) cw_7_114 wd_442 (fun r e => cL_within X.2.1  e) rfl rfl (Nat.le_of_ble_eq_true rfl) (Nat.le_of_ble_eq_true rfl) dX7_readBy_3 rfl (fun b1 => ?_)
  refine nx_ifz_eq (t := 31) dX7_readBy_6 (by decide) rfl ?_ ?_
  · refine nx_iconst dX7_readBy_31 rfl ?_
    exact nx_iret dX7_readBy_32 rfl rfl
  · refine nx_aload_n rfl dX7_readBy_9 rfl ?_
    refine g_getr (Or.inl fl_7_37) dX7_readBy_10 rfl (fun q2 => ?_)
    refine nx_iload_n rfl dX7_readBy_13 rfl ?_
    refine g_callWr [.int a2] (fun r => .int (bz r)) cw_7_137 cv_X6_hasKey (fun M1 c f r hw hc e => cW_hasKey X.2.1 hw hc e) rfl rfl (Nat.le_of_ble_eq_true rfl) (Nat.le_of_ble_eq_true rfl) dX7_readBy_14 rfl (fun b3 => ?_)
    refine nx_ifz_eq (t := 31) dX7_readBy_17 (by decide) rfl ?_ ?_
    · refine nx_iconst dX7_readBy_31 rfl ?_
      exact nx_iret dX7_readBy_32 rfl rfl
    · refine nx_aload_n rfl dX7_readBy_20 rfl ?_
      refine g_getr (Or.inl fl_7_37) dX7_readBy_21 rfl (fun q4 => ?_)
      refine nx_iload_n rfl dX7_readBy_24 rfl ?_
      refine g_callWr [.int a1] (fun r => .int r) cw_7_128 cv_X6_stateOf (fun M1 c f r hw hc e => cW_stateOf X.2.1 hw hc e) rfl rfl (Nat.le_of_ble_eq_true rfl) (Nat.le_of_ble_eq_true rfl) dX7_readBy_25 rfl (fun x5 => ?_)
      refine nx_if_ne (t := 33) dX7_readBy_28 (by decide) rfl ?_ ?_
      · refine nx_aload_n rfl dX7_readBy_33 rfl ?_
        refine g_getr (Or.inl fl_7_37) dX7_readBy_34 rfl (fun q6 => ?_)
        refine nx_iload_n rfl dX7_readBy_37 rfl ?_
        refine nx_iload_n rfl dX7_readBy_38 rfl ?_
        refine g_callWr [.int a1, .int a2] (fun r => .int r) cw_7_141 cv_X6_lastRead (fun M1 c f r hw hc e => cW_lastRead X.2.1 hw hc e) rfl rfl (Nat.le_of_ble_eq_true rfl) (Nat.le_of_ble_eq_true rfl) dX7_readBy_39 rfl (fun x7 => ?_)
        exact nx_iret dX7_readBy_42 rfl rfl
      · refine nx_iconst dX7_readBy_31 rfl ?_
        exact nx_iret dX7_readBy_32 rfl rfl
theorem cC_readBy (l : Launch) {Γ : nx_G} {M0 : Nat → Option va_E} {u : Nat} {D : nx_M} {x : Nat} {a1 : Int32} {a2 : Int32} {r : Int32}  (h : fC_readBy u Γ D x a1 a2 = some r) : nx_Ct l Γ 3 yX7_readBy cX7_readBy 3 (some .int) [.ref x, .int a1, .int a2] (ov M0 D) (some (.int r), (ov M0 D)) :=
  nx_ct (out := fun r0 : Int32 => (some (.int r0), (ov M0 D))) [some (.ref x), some (.int a1), some (.int a2)] pn_RX7 h (Nat.le_of_ble_eq_true rfl) rfl (fun X Z _ => jC_readBy  u D x a1 a2 X Z)
theorem dX7_deed_0 : decode cX7_deed 0 = .ok (.iload_n 1, 1) := by decide +kernel
theorem dX7_deed_1 : decode cX7_deed 1 = .ok (.bipush 8, 2) := by decide +kernel
theorem dX7_deed_3 : decode cX7_deed 3 = .ok (.invokestatic 114, 3) := by decide +kernel
theorem dX7_deed_6 : decode cX7_deed 6 = .ok (.ifCond .eq 26, 3) := by decide +kernel
theorem dX7_deed_9 : decode cX7_deed 9 = .ok (.iload_n 3, 1) := by decide +kernel
theorem dX7_deed_10 : decode cX7_deed 10 = .ok (.iconst 3, 1) := by decide +kernel
theorem dX7_deed_11 : decode cX7_deed 11 = .ok (.invokestatic 114, 3) := by decide +kernel
theorem dX7_deed_14 : decode cX7_deed 14 = .ok (.ifCond .eq 18, 3) := by decide +kernel
theorem dX7_deed_17 : decode cX7_deed 17 = .ok (.iload_n 2, 1) := by decide +kernel
theorem dX7_deed_18 : decode cX7_deed 18 = .ok (.aload_n 0, 1) := by decide +kernel
theorem dX7_deed_19 : decode cX7_deed 19 = .ok (.getfield 37, 3) := by decide +kernel
theorem dX7_deed_22 : decode cX7_deed 22 = .ok (.iload_n 1, 1) := by decide +kernel
theorem dX7_deed_23 : decode cX7_deed 23 = .ok (.invokevirtual 144, 3) := by decide +kernel
theorem dX7_deed_26 : decode cX7_deed 26 = .ok (.invokestatic 114, 3) := by decide +kernel
theorem dX7_deed_29 : decode cX7_deed 29 = .ok (.ifCond .ne 6, 3) := by decide +kernel
theorem dX7_deed_32 : decode cX7_deed 32 = .ok (.ldc 147, 2) := by decide +kernel
theorem dX7_deed_34 : decode cX7_deed 34 = .ok (.ireturn, 1) := by decide +kernel
theorem dX7_deed_35 : decode cX7_deed 35 = .ok (.aload_n 0, 1) := by decide +kernel
theorem dX7_deed_36 : decode cX7_deed 36 = .ok (.getfield 37, 3) := by decide +kernel
theorem dX7_deed_39 : decode cX7_deed 39 = .ok (.iload_n 1, 1) := by decide +kernel
theorem dX7_deed_40 : decode cX7_deed 40 = .ok (.iload_n 2, 1) := by decide +kernel
theorem dX7_deed_41 : decode cX7_deed 41 = .ok (.iload_n 3, 1) := by decide +kernel
theorem dX7_deed_42 : decode cX7_deed 42 = .ok (.invokevirtual 148, 3) := by decide +kernel
theorem dX7_deed_45 : decode cX7_deed 45 = .ok (.ireturn, 1) := by decide +kernel
def fC_deed (u : Nat) (Γ : nx_G) (D : nx_M) (x : Nat) (a1 : Int32) (a2 : Int32) (a3 : Int32) : Option (Int32) :=
  (fL_within u a1 (iz 8)).bind fun b1 =>
  if b1 = true then
    (fL_within u a3 (iz 3)).bind fun b2 =>
    if b2 = true then
      (gR D x 7 5).bind fun q3 =>
      (wRd Γ D q3 (fun f => fW_deedsOf u f a1)).bind fun x4 =>
      (fL_within u a2 x4).bind fun b5 =>
      if b5 = true then
        (gR D x 7 5).bind fun q6 =>
        (wRd Γ D q6 (fun f => fW_deedPart u f a1 a2 a3)).bind fun x7 =>
        some x7
      else
        some ((-1000000) : Int32)
    else
      some ((-1000000) : Int32)
  else
    some ((-1000000) : Int32)
set_option maxRecDepth 4000 in
theorem jC_deed {Γ : nx_G} {M0 : Nat → Option va_E} (u : Nat) (D : nx_M) (x : Nat) (a1 : Int32) (a2 : Int32) (a3 : Int32)   (X : nx_X) (Z : nx_Z) : nx_J Γ X (RX7, cX7_deed, 4, (some .int), "deed", 2) Z (fun r0 : Int32 => .inr (some (.int r0), (ov M0 D))) (.inl (0, [some (.ref x), some (.int a1), some (.int a2), some (.int a3)], [], (ov M0 D))) (fC_deed u Γ D x a1 a2 a3) := by
  unfold fC_deed
  refine nx_iload_n rfl dX7_deed_0 rfl ?_
  refine nx_bipush (by decide +kernel) dX7_deed_1 rfl ?_
  refine nx_callSr [.int a1, .int (iz 8)] (fun r => .int (bz r)) (fun _ => (ov M0 D)) cw_7_114 wd_442 (fun r e => cL_within X.2.1  e) rfl rfl (Nat.le_of_ble_eq_true rfl) (Nat.le_of_ble_eq_true rfl) dX7_deed_3 rfl (fun b1 => ?_)
  refine nx_ifz_eq (t := 32) dX7_deed_6 (by decide) rfl ?_ ?_
  · refine nx_ldc wd_544 dX7_deed_32 rfl ?_
    exact nx_iret dX7_deed_34 rfl rfl
  · refine nx_iload_n rfl dX7_deed_9 rfl ?_
    refine nx_iconst dX7_deed_10 rfl ?_
    refine nx_callSr [.int a3, .int (iz 3)] (fun r => .int (bz r)) (fun _ => (ov M0 D)) cw_7_114 wd_442 (fun r e => cL_within X.2.1  e) rfl rfl (Nat.le_of_ble_eq_true rfl) (Nat.le_of_ble_eq_true rfl) dX7_deed_11 rfl (fun b2 => ?_)
    refine nx_ifz_eq (t := 32) dX7_deed_14 (by decide) rfl ?_ ?_
    · refine nx_ldc wd_544 dX7_deed_32 rfl ?_
      exact nx_iret dX7_deed_34 rfl rfl
    · refine nx_iload_n rfl dX7_deed_17 rfl ?_
      refine nx_aload_n rfl dX7_deed_18 rfl ?_
      refine g_getr (Or.inl fl_7_37) dX7_deed_19 rfl (fun q3 => ?_)
      refine nx_iload_n rfl dX7_deed_22 rfl ?_
      refine g_callWr [.int a1] (fun r => .int r) cw_7_144 cv_X6_deedsOf (fun M1 c f r hw hc e => cW_deedsOf X.2.1 hw hc e) rfl rfl (Nat.le_of_ble_eq_true rfl) (Nat.le_of_ble_eq_true rfl) dX7_deed_23 rfl (fun x4 => ?_)
      refine nx_callSr [.int a2, .int x4] (fun r => .int (bz r)) (fun _ => (ov M0 D)) cw_7_114 wd_442 (fun r e => cL_within X.2.1  e) rfl rfl (Nat.le_of_ble_eq_true rfl) (Nat.le_of_ble_eq_true rfl) dX7_deed_26 rfl (fun b5 => ?_)
      refine nx_ifz_ne (t := 35) dX7_deed_29 (by decide) rfl ?_ ?_
      · refine nx_aload_n rfl dX7_deed_35 rfl ?_
        refine g_getr (Or.inl fl_7_37) dX7_deed_36 rfl (fun q6 => ?_)
        refine nx_iload_n rfl dX7_deed_39 rfl ?_
        refine nx_iload_n rfl dX7_deed_40 rfl ?_
        refine nx_iload_n rfl dX7_deed_41 rfl ?_
        refine g_callWr [.int a1, .int a2, .int a3] (fun r => .int r) cw_7_148 cv_X6_deedPart (fun M1 c f r hw hc e => cW_deedPart X.2.1 hw hc e) rfl rfl (Nat.le_of_ble_eq_true rfl) (Nat.le_of_ble_eq_true rfl) dX7_deed_42 rfl (fun x7 => ?_)
        exact nx_iret dX7_deed_45 rfl rfl
      · refine nx_ldc wd_544 dX7_deed_32 rfl ?_
        exact nx_iret dX7_deed_34 rfl rfl
theorem cC_deed (l : Launch) {Γ : nx_G} {M0 : Nat → Option va_E} {u : Nat} {D : nx_M} {x : Nat} {a1 : Int32} {a2 : Int32} {a3 : Int32} {r : Int32}  (h : fC_deed u Γ D x a1 a2 a3 = some r) : nx_Ct l Γ 2 yX7_deed cX7_deed 4 (some .int) [.ref x, .int a1, .int a2, .int a3] (ov M0 D) (some (.int r), (ov M0 D)) :=
  nx_ct (out := fun r0 : Int32 => (some (.int r0), (ov M0 D))) [some (.ref x), some (.int a1), some (.int a2), some (.int a3)] pn_RX7 h (Nat.le_of_ble_eq_true rfl) rfl (fun X Z _ => jC_deed  u D x a1 a2 a3 X Z)
theorem dX7_versions_0 : decode cX7_versions 0 = .ok (.aload_n 0, 1) := by decide +kernel
theorem dX7_versions_1 : decode cX7_versions 1 = .ok (.getfield 37, 3) := by decide +kernel
theorem dX7_versions_4 : decode cX7_versions 4 = .ok (.iload_n 1, 1) := by decide +kernel
theorem dX7_versions_5 : decode cX7_versions 5 = .ok (.invokevirtual 137, 3) := by decide +kernel
theorem dX7_versions_8 : decode cX7_versions 8 = .ok (.ifCond .eq 14, 3) := by decide +kernel
theorem dX7_versions_11 : decode cX7_versions 11 = .ok (.aload_n 0, 1) := by decide +kernel
theorem dX7_versions_12 : decode cX7_versions 12 = .ok (.getfield 37, 3) := by decide +kernel
theorem dX7_versions_15 : decode cX7_versions 15 = .ok (.iload_n 1, 1) := by decide +kernel
theorem dX7_versions_16 : decode cX7_versions 16 = .ok (.invokevirtual 152, 3) := by decide +kernel
theorem dX7_versions_19 : decode cX7_versions 19 = .ok (.goto 4, 3) := by decide +kernel
theorem dX7_versions_22 : decode cX7_versions 22 = .ok (.iconst (-1), 1) := by decide +kernel
theorem dX7_versions_23 : decode cX7_versions 23 = .ok (.ireturn, 1) := by decide +kernel
def fC_versions (u : Nat) (Γ : nx_G) (D : nx_M) (x : Nat) (a1 : Int32) : Option (Int32) :=
  (gR D x 7 5).bind fun q1 =>
  (wRd Γ D q1 (fun f => fW_hasKey u f a1)).bind fun b2 =>
  if b2 = true then
    (gR D x 7 5).bind fun q3 =>
    (wRd Γ D q3 (fun f => fW_versionsOf u f a1)).bind fun x4 =>
    some x4
  else
    some (iz (-1))
set_option maxRecDepth 4000 in
theorem jC_versions {Γ : nx_G} {M0 : Nat → Option va_E} (u : Nat) (D : nx_M) (x : Nat) (a1 : Int32)   (X : nx_X) (Z : nx_Z) : nx_J Γ X (RX7, cX7_versions, 2, (some .int), "versions", 3) Z (fun r0 : Int32 => .inr (some (.int r0), (ov M0 D))) (.inl (0, [some (.ref x), some (.int a1)], [], (ov M0 D))) (fC_versions u Γ D x a1) := by
  unfold fC_versions
  refine nx_aload_n rfl dX7_versions_0 rfl ?_
  refine g_getr (Or.inl fl_7_37) dX7_versions_1 rfl (fun q1 => ?_)
  refine nx_iload_n rfl dX7_versions_4 rfl ?_
  refine g_callWr [.int a1] (fun r => .int (bz r)) cw_7_137 cv_X6_hasKey (fun M1 c f r hw hc e => cW_hasKey X.2.1 hw hc e) rfl rfl (Nat.le_of_ble_eq_true rfl) (Nat.le_of_ble_eq_true rfl) dX7_versions_5 rfl (fun b2 => ?_)
  refine nx_ifz_eq (t := 22) dX7_versions_8 (by decide) rfl ?_ ?_
  · refine nx_iconst dX7_versions_22 rfl ?_
    exact nx_iret dX7_versions_23 rfl rfl
  · refine nx_aload_n rfl dX7_versions_11 rfl ?_
    refine g_getr (Or.inl fl_7_37) dX7_versions_12 rfl (fun q3 => ?_)
    refine nx_iload_n rfl dX7_versions_15 rfl ?_
    refine g_callWr [.int a1] (fun r => .int r) cw_7_152 cv_X6_versionsOf (fun M1 c f r hw hc e => cW_versionsOf X.2.1 hw hc e) rfl rfl (Nat.le_of_ble_eq_true rfl) (Nat.le_of_ble_eq_true rfl) dX7_versions_16 rfl (fun x4 => ?_)
    refine nx_goto (q := 23) dX7_versions_19 (by decide) ?_
    exact nx_iret dX7_versions_23 rfl rfl
theorem cC_versions (l : Launch) {Γ : nx_G} {M0 : Nat → Option va_E} {u : Nat} {D : nx_M} {x : Nat} {a1 : Int32} {r : Int32}  (h : fC_versions u Γ D x a1 = some r) : nx_Ct l Γ 3 yX7_versions cX7_versions 2 (some .int) [.ref x, .int a1] (ov M0 D) (some (.int r), (ov M0 D)) :=
  nx_ct (out := fun r0 : Int32 => (some (.int r0), (ov M0 D))) [some (.ref x), some (.int a1)] pn_RX7 h (Nat.le_of_ble_eq_true rfl) rfl (fun X Z _ => jC_versions  u D x a1 X Z)
theorem dX7_version_0 : decode cX7_version 0 = .ok (.aload_n 0, 1) := by decide +kernel
theorem dX7_version_1 : decode cX7_version 1 = .ok (.getfield 37, 3) := by decide +kernel
theorem dX7_version_4 : decode cX7_version 4 = .ok (.iload_n 1, 1) := by decide +kernel
theorem dX7_version_5 : decode cX7_version 5 = .ok (.invokevirtual 137, 3) := by decide +kernel
theorem dX7_version_8 : decode cX7_version 8 = .ok (.ifCond .eq 26, 3) := by decide +kernel
theorem dX7_version_11 : decode cX7_version 11 = .ok (.iload_n 3, 1) := by decide +kernel
theorem dX7_version_12 : decode cX7_version 12 = .ok (.iconst 4, 1) := by decide +kernel
theorem dX7_version_13 : decode cX7_version 13 = .ok (.invokestatic 114, 3) := by decide +kernel
theorem dX7_version_16 : decode cX7_version 16 = .ok (.ifCond .eq 18, 3) := by decide +kernel
theorem dX7_version_19 : decode cX7_version 19 = .ok (.iload_n 2, 1) := by decide +kernel
theorem dX7_version_20 : decode cX7_version 20 = .ok (.aload_n 0, 1) := by decide +kernel
theorem dX7_version_21 : decode cX7_version 21 = .ok (.getfield 37, 3) := by decide +kernel
theorem dX7_version_24 : decode cX7_version 24 = .ok (.iload_n 1, 1) := by decide +kernel
theorem dX7_version_25 : decode cX7_version 25 = .ok (.invokevirtual 152, 3) := by decide +kernel
theorem dX7_version_28 : decode cX7_version 28 = .ok (.invokestatic 114, 3) := by decide +kernel
theorem dX7_version_31 : decode cX7_version 31 = .ok (.ifCond .ne 6, 3) := by decide +kernel
theorem dX7_version_34 : decode cX7_version 34 = .ok (.ldc 147, 2) := by decide +kernel
theorem dX7_version_36 : decode cX7_version 36 = .ok (.ireturn, 1) := by decide +kernel
theorem dX7_version_37 : decode cX7_version 37 = .ok (.aload_n 0, 1) := by decide +kernel
theorem dX7_version_38 : decode cX7_version 38 = .ok (.getfield 37, 3) := by decide +kernel
theorem dX7_version_41 : decode cX7_version 41 = .ok (.iload_n 1, 1) := by decide +kernel
theorem dX7_version_42 : decode cX7_version 42 = .ok (.iload_n 2, 1) := by decide +kernel
theorem dX7_version_43 : decode cX7_version 43 = .ok (.iload_n 3, 1) := by decide +kernel
theorem dX7_version_44 : decode cX7_version 44 = .ok (.invokevirtual 155, 3) := by decide +kernel
theorem dX7_version_47 : decode cX7_version 47 = .ok (.ireturn, 1) := by decide +kernel
def fC_version (u : Nat) (Γ : nx_G) (D : nx_M) (x : Nat) (a1 : Int32) (a2 : Int32) (a3 : Int32) : Option (Int32) :=
  (gR D x 7 5).bind fun q1 =>
  (wRd Γ D q1 (fun f => fW_hasKey u f a1)).bind fun b2 =>
  if b2 = true then
    (fL_within u a3 (iz 4)).bind fun b3 =>
    if b3 = true then
      (gR D x 7 5).bind fun q4 =>
      (wRd Γ D q4 (fun f => fW_versionsOf u f a1)).bind fun x5 =>
      (fL_within u a2 x5).bind fun b6 =>
      if b6 = true then
        (gR D x 7 5).bind fun q7 =>
        (wRd Γ D q7 (fun f => fW_versionPart u f a1 a2 a3)).bind fun x8 =>
        some x8
      else
        some ((-1000000) : Int32)
    else
      some ((-1000000) : Int32)
  else
    some ((-1000000) : Int32)
set_option maxRecDepth 4000 in
theorem jC_version {Γ : nx_G} {M0 : Nat → Option va_E} (u : Nat) (D : nx_M) (x : Nat) (a1 : Int32) (a2 : Int32) (a3 : Int32)   (X : nx_X) (Z : nx_Z) : nx_J Γ X (RX7, cX7_version, 4, (some .int), "version", 3) Z (fun r0 : Int32 => .inr (some (.int r0), (ov M0 D))) (.inl (0, [some (.ref x), some (.int a1), some (.int a2), some (.int a3)], [], (ov M0 D))) (fC_version u Γ D x a1 a2 a3) := by
  unfold fC_version
  refine nx_aload_n rfl dX7_version_0 rfl ?_
  refine g_getr (Or.inl fl_7_37) dX7_version_1 rfl (fun q1 => ?_)
  refine nx_iload_n rfl dX7_version_4 rfl ?_
  refine g_callWr [.int a1] (fun r => .int (bz r)) cw_7_137 cv_X6_hasKey (fun M1 c f r hw hc e => cW_hasKey X.2.1 hw hc e) rfl rfl (Nat.le_of_ble_eq_true rfl) (Nat.le_of_ble_eq_true rfl) dX7_version_5 rfl (fun b2 => ?_)
  refine nx_ifz_eq (t := 34) dX7_version_8 (by decide) rfl ?_ ?_
  · refine nx_ldc wd_544 dX7_version_34 rfl ?_
    exact nx_iret dX7_version_36 rfl rfl
  · refine nx_iload_n rfl dX7_version_11 rfl ?_
    refine nx_iconst dX7_version_12 rfl ?_
    refine nx_callSr [.int a3, .int (iz 4)] (fun r => .int (bz r)) (fun _ => (ov M0 D)) cw_7_114 wd_442 (fun r e => cL_within X.2.1  e) rfl rfl (Nat.le_of_ble_eq_true rfl) (Nat.le_of_ble_eq_true rfl) dX7_version_13 rfl (fun b3 => ?_)
    refine nx_ifz_eq (t := 34) dX7_version_16 (by decide) rfl ?_ ?_
    · refine nx_ldc wd_544 dX7_version_34 rfl ?_
      exact nx_iret dX7_version_36 rfl rfl
    · refine nx_iload_n rfl dX7_version_19 rfl ?_
      refine nx_aload_n rfl dX7_version_20 rfl ?_
      refine g_getr (Or.inl fl_7_37) dX7_version_21 rfl (fun q4 => ?_)
      refine nx_iload_n rfl dX7_version_24 rfl ?_
      refine g_callWr [.int a1] (fun r => .int r) cw_7_152 cv_X6_versionsOf (fun M1 c f r hw hc e => cW_versionsOf X.2.1 hw hc e) rfl rfl (Nat.le_of_ble_eq_true rfl) (Nat.le_of_ble_eq_true rfl) dX7_version_25 rfl (fun x5 => ?_)
      refine nx_callSr [.int a2, .int x5] (fun r => .int (bz r)) (fun _ => (ov M0 D)) cw_7_114 wd_442 (fun r e => cL_within X.2.1  e) rfl rfl (Nat.le_of_ble_eq_true rfl) (Nat.le_of_ble_eq_true rfl) dX7_version_28 rfl (fun b6 => ?_)
      refine nx_ifz_ne (t := 37) dX7_version_31 (by decide) rfl ?_ ?_
      · refine nx_aload_n rfl dX7_version_37 rfl ?_
        refine g_getr (Or.inl fl_7_37) dX7_version_38 rfl (fun q7 => ?_)
        refine nx_iload_n rfl dX7_version_41 rfl ?_
        refine nx_iload_n rfl dX7_version_42 rfl ?_
        refine nx_iload_n rfl dX7_version_43 rfl ?_
        refine g_callWr [.int a1, .int a2, .int a3] (fun r => .int r) cw_7_155 cv_X6_versionPart (fun M1 c f r hw hc e => cW_versionPart X.2.1 hw hc e) rfl rfl (Nat.le_of_ble_eq_true rfl) (Nat.le_of_ble_eq_true rfl) dX7_version_44 rfl (fun x8 => ?_)
        exact nx_iret dX7_version_47 rfl rfl
      · refine nx_ldc wd_544 dX7_version_34 rfl ?_
        exact nx_iret dX7_version_36 rfl rfl
theorem cC_version (l : Launch) {Γ : nx_G} {M0 : Nat → Option va_E} {u : Nat} {D : nx_M} {x : Nat} {a1 : Int32} {a2 : Int32} {a3 : Int32} {r : Int32}  (h : fC_version u Γ D x a1 a2 a3 = some r) : nx_Ct l Γ 3 yX7_version cX7_version 4 (some .int) [.ref x, .int a1, .int a2, .int a3] (ov M0 D) (some (.int r), (ov M0 D)) :=
  nx_ct (out := fun r0 : Int32 => (some (.int r0), (ov M0 D))) [some (.ref x), some (.int a1), some (.int a2), some (.int a3)] pn_RX7 h (Nat.le_of_ble_eq_true rfl) rfl (fun X Z _ => jC_version  u D x a1 a2 a3 X Z)
theorem dX7_isRefused_0 : decode cX7_isRefused 0 = .ok (.aload_n 0, 1) := by decide +kernel
theorem dX7_isRefused_1 : decode cX7_isRefused 1 = .ok (.getfield 37, 3) := by decide +kernel
theorem dX7_isRefused_4 : decode cX7_isRefused 4 = .ok (.iload_n 1, 1) := by decide +kernel
theorem dX7_isRefused_5 : decode cX7_isRefused 5 = .ok (.iload_n 2, 1) := by decide +kernel
theorem dX7_isRefused_6 : decode cX7_isRefused 6 = .ok (.iload_n 3, 1) := by decide +kernel
theorem dX7_isRefused_7 : decode cX7_isRefused 7 = .ok (.iload 4, 2) := by decide +kernel
theorem dX7_isRefused_9 : decode cX7_isRefused 9 = .ok (.invokevirtual 173, 3) := by decide +kernel
theorem dX7_isRefused_12 : decode cX7_isRefused 12 = .ok (.istore 5, 2) := by decide +kernel
theorem dX7_isRefused_14 : decode cX7_isRefused 14 = .ok (.iload 5, 2) := by decide +kernel
theorem dX7_isRefused_16 : decode cX7_isRefused 16 = .ok (.iconst 4, 1) := by decide +kernel
theorem dX7_isRefused_17 : decode cX7_isRefused 17 = .ok (.invokestatic 114, 3) := by decide +kernel
theorem dX7_isRefused_20 : decode cX7_isRefused 20 = .ok (.ifCond .eq 16, 3) := by decide +kernel
theorem dX7_isRefused_23 : decode cX7_isRefused 23 = .ok (.aload_n 0, 1) := by decide +kernel
theorem dX7_isRefused_24 : decode cX7_isRefused 24 = .ok (.getfield 65, 3) := by decide +kernel
theorem dX7_isRefused_27 : decode cX7_isRefused 27 = .ok (.iload 5, 2) := by decide +kernel
theorem dX7_isRefused_29 : decode cX7_isRefused 29 = .ok (.dup2, 1) := by decide +kernel
theorem dX7_isRefused_30 : decode cX7_isRefused 30 = .ok (.iaload, 1) := by decide +kernel
theorem dX7_isRefused_31 : decode cX7_isRefused 31 = .ok (.iconst 1, 1) := by decide +kernel
theorem dX7_isRefused_32 : decode cX7_isRefused 32 = .ok (.iadd, 1) := by decide +kernel
theorem dX7_isRefused_33 : decode cX7_isRefused 33 = .ok (.iastore, 1) := by decide +kernel
theorem dX7_isRefused_34 : decode cX7_isRefused 34 = .ok (.iconst 1, 1) := by decide +kernel
theorem dX7_isRefused_35 : decode cX7_isRefused 35 = .ok (.ireturn, 1) := by decide +kernel
theorem dX7_isRefused_36 : decode cX7_isRefused 36 = .ok (.iconst 0, 1) := by decide +kernel
theorem dX7_isRefused_37 : decode cX7_isRefused 37 = .ok (.ireturn, 1) := by decide +kernel
def fC_isRefused (u : Nat) (Γ : nx_G) (D : nx_M) (x : Nat) (a1 : Int32) (a2 : Int32) (a3 : Int32) (a4 : Int32) : Option (Bool × nx_M) :=
  (gR D x 7 5).bind fun q1 =>
  (wRd Γ D q1 (fun f => fW_refusal u f a1 a2 a3 a4)).bind fun x2 =>
  (fL_within u x2 (iz 4)).bind fun b3 =>
  if b3 = true then
    (gR D x 7 11).bind fun q4 =>
    (aI Γ D q4 x2).bind fun x5 =>
    (aIw Γ D q4 x2 (x5 + (iz 1))).bind fun D6 =>
    some (true, D6)
  else
    some (false, D)
set_option maxRecDepth 4000 in
theorem jC_isRefused {Γ : nx_G} {M0 : Nat → Option va_E} (u : Nat) (D : nx_M) (x : Nat) (a1 : Int32) (a2 : Int32) (a3 : Int32) (a4 : Int32)   (X : nx_X) (Z : nx_Z) : nx_J Γ X (RX7, cX7_isRefused, 6, (some .boolean), "isRefused", 5) Z (fun r0 : Bool × nx_M => .inr (some (.int (bz r0.1)), (ov M0 r0.2))) (.inl (0, [some (.ref x), some (.int a1), some (.int a2), some (.int a3), some (.int a4), none], [], (ov M0 D))) (fC_isRefused u Γ D x a1 a2 a3 a4) := by
  unfold fC_isRefused
  refine nx_aload_n rfl dX7_isRefused_0 rfl ?_
  refine g_getr (Or.inl fl_7_37) dX7_isRefused_1 rfl (fun q1 => ?_)
  refine nx_iload_n rfl dX7_isRefused_4 rfl ?_
  refine nx_iload_n rfl dX7_isRefused_5 rfl ?_
  refine nx_iload_n rfl dX7_isRefused_6 rfl ?_
  refine nx_iload rfl dX7_isRefused_7 rfl ?_
  refine g_callWr [.int a1, .int a2, .int a3, .int a4] (fun r => .int r) cw_7_173 cv_X6_refusal (fun M1 c f r hw hc e => cW_refusal X.2.1 hw hc e) rfl rfl (Nat.le_of_ble_eq_true rfl) (Nat.le_of_ble_eq_true rfl) dX7_isRefused_9 rfl (fun x2 => ?_)
  refine nx_istore [some (.ref x), some (.int a1), some (.int a2), some (.int a3), some (.int a4), some (.int x2)] dX7_isRefused_12 rfl (Nat.le_of_ble_eq_true rfl) rfl rfl ?_
  refine nx_iload rfl dX7_isRefused_14 rfl ?_
  refine nx_iconst dX7_isRefused_16 rfl ?_
  refine nx_callSr [.int x2, .int (iz 4)] (fun r => .int (bz r)) (fun _ => (ov M0 D)) cw_7_114 wd_442 (fun r e => cL_within X.2.1  e) rfl rfl (Nat.le_of_ble_eq_true rfl) (Nat.le_of_ble_eq_true rfl) dX7_isRefused_17 rfl (fun b3 => ?_)
  refine nx_ifz_eq (t := 36) dX7_isRefused_20 (by decide) rfl ?_ ?_
  · refine nx_iconst dX7_isRefused_36 rfl ?_
    exact nx_zret (b := false) dX7_isRefused_37 rfl rfl
  · refine nx_aload_n rfl dX7_isRefused_23 rfl ?_
    refine g_getr (Or.inl fl_7_65) dX7_isRefused_24 rfl (fun q4 => ?_)
    refine nx_iload rfl dX7_isRefused_27 rfl ?_
    refine nx_dup2 rfl rfl dX7_isRefused_29 rfl ?_
    refine g_iald dX7_isRefused_30 rfl (fun x5 => ?_)
    refine nx_iconst dX7_isRefused_31 rfl ?_
    refine nx_iadd dX7_isRefused_32 rfl ?_
    refine g_iast dX7_isRefused_33 rfl (fun D6 => ?_)
    refine nx_iconst dX7_isRefused_34 rfl ?_
    exact nx_zret (b := true) dX7_isRefused_35 rfl rfl
theorem cC_isRefused (l : Launch) {Γ : nx_G} {M0 : Nat → Option va_E} {u : Nat} {D : nx_M} {x : Nat} {a1 : Int32} {a2 : Int32} {a3 : Int32} {a4 : Int32} {r : Bool × nx_M}  (h : fC_isRefused u Γ D x a1 a2 a3 a4 = some r) : nx_Ct l Γ 5 yX7_isRefused cX7_isRefused 6 (some .boolean) [.ref x, .int a1, .int a2, .int a3, .int a4] (ov M0 D) (some (.int (bz r.1)), (ov M0 r.2)) :=
  nx_ct (out := fun r0 : Bool × nx_M => (some (.int (bz r0.1)), (ov M0 r0.2))) [some (.ref x), some (.int a1), some (.int a2), some (.int a3), some (.int a4), none] pn_RX7 h (Nat.le_of_ble_eq_true rfl) rfl (fun X Z _ => jC_isRefused  u D x a1 a2 a3 a4 X Z)
theorem dX7_tried_0 : decode cX7_tried 0 = .ok (.aload_n 0, 1) := by decide +kernel
theorem dX7_tried_1 : decode cX7_tried 1 = .ok (.iload_n 1, 1) := by decide +kernel
theorem dX7_tried_2 : decode cX7_tried 2 = .ok (.iload_n 2, 1) := by decide +kernel
theorem dX7_tried_3 : decode cX7_tried 3 = .ok (.iload_n 3, 1) := by decide +kernel
theorem dX7_tried_4 : decode cX7_tried 4 = .ok (.iload 4, 2) := by decide +kernel
theorem dX7_tried_6 : decode cX7_tried 6 = .ok (.invokevirtual 162, 3) := by decide +kernel
theorem dX7_tried_9 : decode cX7_tried 9 = .ok (.ifCond .eq 5, 3) := by decide +kernel
theorem dX7_tried_12 : decode cX7_tried 12 = .ok (.iconst (-1), 1) := by decide +kernel
theorem dX7_tried_13 : decode cX7_tried 13 = .ok (.ireturn, 1) := by decide +kernel
theorem dX7_tried_14 : decode cX7_tried 14 = .ok (.aload_n 0, 1) := by decide +kernel
theorem dX7_tried_15 : decode cX7_tried 15 = .ok (.getfield 44, 3) := by decide +kernel
theorem dX7_tried_18 : decode cX7_tried 18 = .ok (.aload_n 0, 1) := by decide +kernel
theorem dX7_tried_19 : decode cX7_tried 19 = .ok (.getfield 37, 3) := by decide +kernel
theorem dX7_tried_22 : decode cX7_tried 22 = .ok (.invokevirtual 166, 3) := by decide +kernel
theorem dX7_tried_25 : decode cX7_tried 25 = .ok (.aload_n 0, 1) := by decide +kernel
theorem dX7_tried_26 : decode cX7_tried 26 = .ok (.getfield 37, 3) := by decide +kernel
theorem dX7_tried_29 : decode cX7_tried 29 = .ok (.iload_n 1, 1) := by decide +kernel
theorem dX7_tried_30 : decode cX7_tried 30 = .ok (.iload_n 2, 1) := by decide +kernel
theorem dX7_tried_31 : decode cX7_tried 31 = .ok (.iload_n 3, 1) := by decide +kernel
theorem dX7_tried_32 : decode cX7_tried 32 = .ok (.iload 4, 2) := by decide +kernel
theorem dX7_tried_34 : decode cX7_tried 34 = .ok (.invokevirtual 176, 3) := by decide +kernel
theorem dX7_tried_37 : decode cX7_tried 37 = .ok (.ireturn, 1) := by decide +kernel
def fC_tried (u : Nat) (Γ : nx_G) (D : nx_M) (x : Nat) (a1 : Int32) (a2 : Int32) (a3 : Int32) (a4 : Int32) : Option (Int32 × nx_M) :=
  (gAt D x 7 (fC_isRefused u Γ D x a1 a2 a3 a4)).bind fun p1 =>
  if p1.1 = true then
    some ((iz (-1)), p1.2)
  else
    (gR p1.2 x 7 6).bind fun q2 =>
    (gR p1.2 x 7 5).bind fun q3 =>
    (gAt p1.2 q2 2 (fQ_keep u Γ p1.2 q2 q3)).bind fun D4 =>
    (gR D4 x 7 5).bind fun q5 =>
    (wWr Γ D4 q5 (fun f => fW_act u f a1 a2 a3 a4)).bind fun p6 =>
    some (p6.1, p6.2)
set_option maxRecDepth 4000 in
theorem jC_tried {Γ : nx_G} {M0 : Nat → Option va_E} (u : Nat) (D : nx_M) (x : Nat) (a1 : Int32) (a2 : Int32) (a3 : Int32) (a4 : Int32)   (X : nx_X) (Z : nx_Z) : nx_J Γ X (RX7, cX7_tried, 5, (some .int), "tried", 6) Z (fun r0 : Int32 × nx_M => .inr (some (.int r0.1), (ov M0 r0.2))) (.inl (0, [some (.ref x), some (.int a1), some (.int a2), some (.int a3), some (.int a4)], [], (ov M0 D))) (fC_tried u Γ D x a1 a2 a3 a4) := by
  unfold fC_tried
  refine nx_aload_n rfl dX7_tried_0 rfl ?_
  refine nx_iload_n rfl dX7_tried_1 rfl ?_
  refine nx_iload_n rfl dX7_tried_2 rfl ?_
  refine nx_iload_n rfl dX7_tried_3 rfl ?_
  refine nx_iload rfl dX7_tried_4 rfl ?_
  refine g_callGr [.int a1, .int a2, .int a3, .int a4] (fun r => .int (bz r.1)) (fun r => r.2) cw_7_162 cv_X7_isRefused (fun r e => cC_isRefused X.2.1 e) rfl rfl (Nat.le_of_ble_eq_true rfl) (Nat.le_of_ble_eq_true rfl) dX7_tried_6 rfl (fun p1 => ?_)
  refine nx_ifz_eq (t := 14) dX7_tried_9 (by decide) rfl ?_ ?_
  · refine nx_aload_n rfl dX7_tried_14 rfl ?_
    refine g_getr (Or.inl fl_7_44) dX7_tried_15 rfl (fun q2 => ?_)
    refine nx_aload_n rfl dX7_tried_18 rfl ?_
    refine g_getr (Or.inl fl_7_37) dX7_tried_19 rfl (fun q3 => ?_)
    refine g_callGv [.ref q3] (fun r => r) cw_7_166 cv_X2_keep (fun r e => cQ_keep X.2.1 e) rfl rfl (Nat.le_of_ble_eq_true rfl) (Nat.le_of_ble_eq_true rfl) dX7_tried_22 rfl (fun D4 => ?_)
    refine nx_aload_n rfl dX7_tried_25 rfl ?_
    refine g_getr (Or.inl fl_7_37) dX7_tried_26 rfl (fun q5 => ?_)
    refine nx_iload_n rfl dX7_tried_29 rfl ?_
    refine nx_iload_n rfl dX7_tried_30 rfl ?_
    refine nx_iload_n rfl dX7_tried_31 rfl ?_
    refine nx_iload rfl dX7_tried_32 rfl ?_
    refine g_callWw [.int a1, .int a2, .int a3, .int a4] (fun r => .int r) cw_7_176 cv_X6_act (fun M1 c f r hw hc e => cW_act X.2.1 hw hc e) rfl rfl (Nat.le_of_ble_eq_true rfl) (Nat.le_of_ble_eq_true rfl) dX7_tried_34 rfl (fun p6 => ?_)
    exact nx_iret dX7_tried_37 rfl rfl
  · refine nx_iconst dX7_tried_12 rfl ?_
    exact nx_iret dX7_tried_13 rfl rfl
theorem cC_tried (l : Launch) {Γ : nx_G} {M0 : Nat → Option va_E} {u : Nat} {D : nx_M} {x : Nat} {a1 : Int32} {a2 : Int32} {a3 : Int32} {a4 : Int32} {r : Int32 × nx_M}  (h : fC_tried u Γ D x a1 a2 a3 a4 = some r) : nx_Ct l Γ 6 yX7_tried cX7_tried 5 (some .int) [.ref x, .int a1, .int a2, .int a3, .int a4] (ov M0 D) (some (.int r.1), (ov M0 r.2)) :=
  nx_ct (out := fun r0 : Int32 × nx_M => (some (.int r0.1), (ov M0 r0.2))) [some (.ref x), some (.int a1), some (.int a2), some (.int a3), some (.int a4)] pn_RX7 h (Nat.le_of_ble_eq_true rfl) rfl (fun X Z _ => jC_tried  u D x a1 a2 a3 a4 X Z)
theorem dX7_open_0 : decode cX7_open 0 = .ok (.aload_n 0, 1) := by decide +kernel
theorem dX7_open_1 : decode cX7_open 1 = .ok (.iconst 0, 1) := by decide +kernel
theorem dX7_open_2 : decode cX7_open 2 = .ok (.iload_n 1, 1) := by decide +kernel
theorem dX7_open_3 : decode cX7_open 3 = .ok (.iload_n 2, 1) := by decide +kernel
theorem dX7_open_4 : decode cX7_open 4 = .ok (.iconst (-1), 1) := by decide +kernel
theorem dX7_open_5 : decode cX7_open 5 = .ok (.invokevirtual 158, 3) := by decide +kernel
theorem dX7_open_8 : decode cX7_open 8 = .ok (.ireturn, 1) := by decide +kernel
def fC_open (u : Nat) (Γ : nx_G) (D : nx_M) (x : Nat) (a1 : Int32) (a2 : Int32) : Option (Int32 × nx_M) :=
  (gAt D x 7 (fC_tried u Γ D x (iz 0) a1 a2 (iz (-1)))).bind fun p1 =>
  some (p1.1, p1.2)
set_option maxRecDepth 4000 in
theorem jC_open {Γ : nx_G} {M0 : Nat → Option va_E} (u : Nat) (D : nx_M) (x : Nat) (a1 : Int32) (a2 : Int32)   (X : nx_X) (Z : nx_Z) : nx_J Γ X (RX7, cX7_open, 3, (some .int), "open", 7) Z (fun r0 : Int32 × nx_M => .inr (some (.int r0.1), (ov M0 r0.2))) (.inl (0, [some (.ref x), some (.int a1), some (.int a2)], [], (ov M0 D))) (fC_open u Γ D x a1 a2) := by
  unfold fC_open
  refine nx_aload_n rfl dX7_open_0 rfl ?_
  refine nx_iconst dX7_open_1 rfl ?_
  refine nx_iload_n rfl dX7_open_2 rfl ?_
  refine nx_iload_n rfl dX7_open_3 rfl ?_
  refine nx_iconst dX7_open_4 rfl ?_
  refine g_callGr [.int (iz 0), .int a1, .int a2, .int (iz (-1))] (fun r => .int r.1) (fun r => r.2) cw_7_158 cv_X7_tried (fun r e => cC_tried X.2.1 e) rfl rfl (Nat.le_of_ble_eq_true rfl) (Nat.le_of_ble_eq_true rfl) dX7_open_5 rfl (fun p1 => ?_)
  exact nx_iret dX7_open_8 rfl rfl
theorem cC_open (l : Launch) {Γ : nx_G} {M0 : Nat → Option va_E} {u : Nat} {D : nx_M} {x : Nat} {a1 : Int32} {a2 : Int32} {r : Int32 × nx_M}  (h : fC_open u Γ D x a1 a2 = some r) : nx_Ct l Γ 7 yX7_open cX7_open 3 (some .int) [.ref x, .int a1, .int a2] (ov M0 D) (some (.int r.1), (ov M0 r.2)) :=
  nx_ct (out := fun r0 : Int32 × nx_M => (some (.int r0.1), (ov M0 r0.2))) [some (.ref x), some (.int a1), some (.int a2)] pn_RX7 h (Nat.le_of_ble_eq_true rfl) rfl (fun X Z _ => jC_open  u D x a1 a2 X Z)
theorem dX7_openAt_0 : decode cX7_openAt 0 = .ok (.aload_n 0, 1) := by decide +kernel
theorem dX7_openAt_1 : decode cX7_openAt 1 = .ok (.bipush 6, 2) := by decide +kernel
theorem dX7_openAt_3 : decode cX7_openAt 3 = .ok (.iload_n 1, 1) := by decide +kernel
theorem dX7_openAt_4 : decode cX7_openAt 4 = .ok (.iload_n 2, 1) := by decide +kernel
theorem dX7_openAt_5 : decode cX7_openAt 5 = .ok (.iload_n 3, 1) := by decide +kernel
theorem dX7_openAt_6 : decode cX7_openAt 6 = .ok (.invokevirtual 158, 3) := by decide +kernel
theorem dX7_openAt_9 : decode cX7_openAt 9 = .ok (.ireturn, 1) := by decide +kernel
def fC_openAt (u : Nat) (Γ : nx_G) (D : nx_M) (x : Nat) (a1 : Int32) (a2 : Int32) (a3 : Int32) : Option (Int32 × nx_M) :=
  (gAt D x 7 (fC_tried u Γ D x (iz 6) a1 a2 a3)).bind fun p1 =>
  some (p1.1, p1.2)
set_option maxRecDepth 4000 in
theorem jC_openAt {Γ : nx_G} {M0 : Nat → Option va_E} (u : Nat) (D : nx_M) (x : Nat) (a1 : Int32) (a2 : Int32) (a3 : Int32)   (X : nx_X) (Z : nx_Z) : nx_J Γ X (RX7, cX7_openAt, 4, (some .int), "openAt", 7) Z (fun r0 : Int32 × nx_M => .inr (some (.int r0.1), (ov M0 r0.2))) (.inl (0, [some (.ref x), some (.int a1), some (.int a2), some (.int a3)], [], (ov M0 D))) (fC_openAt u Γ D x a1 a2 a3) := by
  unfold fC_openAt
  refine nx_aload_n rfl dX7_openAt_0 rfl ?_
  refine nx_bipush (by decide +kernel) dX7_openAt_1 rfl ?_
  refine nx_iload_n rfl dX7_openAt_3 rfl ?_
  refine nx_iload_n rfl dX7_openAt_4 rfl ?_
  refine nx_iload_n rfl dX7_openAt_5 rfl ?_
  refine g_callGr [.int (iz 6), .int a1, .int a2, .int a3] (fun r => .int r.1) (fun r => r.2) cw_7_158 cv_X7_tried (fun r e => cC_tried X.2.1 e) rfl rfl (Nat.le_of_ble_eq_true rfl) (Nat.le_of_ble_eq_true rfl) dX7_openAt_6 rfl (fun p1 => ?_)
  exact nx_iret dX7_openAt_9 rfl rfl
theorem cC_openAt (l : Launch) {Γ : nx_G} {M0 : Nat → Option va_E} {u : Nat} {D : nx_M} {x : Nat} {a1 : Int32} {a2 : Int32} {a3 : Int32} {r : Int32 × nx_M}  (h : fC_openAt u Γ D x a1 a2 a3 = some r) : nx_Ct l Γ 7 yX7_openAt cX7_openAt 4 (some .int) [.ref x, .int a1, .int a2, .int a3] (ov M0 D) (some (.int r.1), (ov M0 r.2)) :=
  nx_ct (out := fun r0 : Int32 × nx_M => (some (.int r0.1), (ov M0 r0.2))) [some (.ref x), some (.int a1), some (.int a2), some (.int a3)] pn_RX7 h (Nat.le_of_ble_eq_true rfl) rfl (fun X Z _ => jC_openAt  u D x a1 a2 a3 X Z)
theorem dX7_read_0 : decode cX7_read 0 = .ok (.aload_n 0, 1) := by decide +kernel
theorem dX7_read_1 : decode cX7_read 1 = .ok (.iconst 1, 1) := by decide +kernel
theorem dX7_read_2 : decode cX7_read 2 = .ok (.iload_n 1, 1) := by decide +kernel
theorem dX7_read_3 : decode cX7_read 3 = .ok (.iload_n 2, 1) := by decide +kernel
theorem dX7_read_4 : decode cX7_read 4 = .ok (.iconst (-1), 1) := by decide +kernel
theorem dX7_read_5 : decode cX7_read 5 = .ok (.invokevirtual 158, 3) := by decide +kernel
theorem dX7_read_8 : decode cX7_read 8 = .ok (.ireturn, 1) := by decide +kernel
def fC_read (u : Nat) (Γ : nx_G) (D : nx_M) (x : Nat) (a1 : Int32) (a2 : Int32) : Option (Int32 × nx_M) :=
  (gAt D x 7 (fC_tried u Γ D x (iz 1) a1 a2 (iz (-1)))).bind fun p1 =>
  some (p1.1, p1.2)
set_option maxRecDepth 4000 in
theorem jC_read {Γ : nx_G} {M0 : Nat → Option va_E} (u : Nat) (D : nx_M) (x : Nat) (a1 : Int32) (a2 : Int32)   (X : nx_X) (Z : nx_Z) : nx_J Γ X (RX7, cX7_read, 3, (some .int), "read", 7) Z (fun r0 : Int32 × nx_M => .inr (some (.int r0.1), (ov M0 r0.2))) (.inl (0, [some (.ref x), some (.int a1), some (.int a2)], [], (ov M0 D))) (fC_read u Γ D x a1 a2) := by
  unfold fC_read
  refine nx_aload_n rfl dX7_read_0 rfl ?_
  refine nx_iconst dX7_read_1 rfl ?_
  refine nx_iload_n rfl dX7_read_2 rfl ?_
  refine nx_iload_n rfl dX7_read_3 rfl ?_
  refine nx_iconst dX7_read_4 rfl ?_
  refine g_callGr [.int (iz 1), .int a1, .int a2, .int (iz (-1))] (fun r => .int r.1) (fun r => r.2) cw_7_158 cv_X7_tried (fun r e => cC_tried X.2.1 e) rfl rfl (Nat.le_of_ble_eq_true rfl) (Nat.le_of_ble_eq_true rfl) dX7_read_5 rfl (fun p1 => ?_)
  exact nx_iret dX7_read_8 rfl rfl
theorem cC_read (l : Launch) {Γ : nx_G} {M0 : Nat → Option va_E} {u : Nat} {D : nx_M} {x : Nat} {a1 : Int32} {a2 : Int32} {r : Int32 × nx_M}  (h : fC_read u Γ D x a1 a2 = some r) : nx_Ct l Γ 7 yX7_read cX7_read 3 (some .int) [.ref x, .int a1, .int a2] (ov M0 D) (some (.int r.1), (ov M0 r.2)) :=
  nx_ct (out := fun r0 : Int32 × nx_M => (some (.int r0.1), (ov M0 r0.2))) [some (.ref x), some (.int a1), some (.int a2)] pn_RX7 h (Nat.le_of_ble_eq_true rfl) rfl (fun X Z _ => jC_read  u D x a1 a2 X Z)
theorem dX7_write_0 : decode cX7_write 0 = .ok (.aload_n 0, 1) := by decide +kernel
theorem dX7_write_1 : decode cX7_write 1 = .ok (.iconst 2, 1) := by decide +kernel
theorem dX7_write_2 : decode cX7_write 2 = .ok (.iload_n 1, 1) := by decide +kernel
theorem dX7_write_3 : decode cX7_write 3 = .ok (.iload_n 2, 1) := by decide +kernel
theorem dX7_write_4 : decode cX7_write 4 = .ok (.iload_n 3, 1) := by decide +kernel
theorem dX7_write_5 : decode cX7_write 5 = .ok (.invokevirtual 158, 3) := by decide +kernel
theorem dX7_write_8 : decode cX7_write 8 = .ok (.ireturn, 1) := by decide +kernel
def fC_write (u : Nat) (Γ : nx_G) (D : nx_M) (x : Nat) (a1 : Int32) (a2 : Int32) (a3 : Int32) : Option (Int32 × nx_M) :=
  (gAt D x 7 (fC_tried u Γ D x (iz 2) a1 a2 a3)).bind fun p1 =>
  some (p1.1, p1.2)
set_option maxRecDepth 4000 in
theorem jC_write {Γ : nx_G} {M0 : Nat → Option va_E} (u : Nat) (D : nx_M) (x : Nat) (a1 : Int32) (a2 : Int32) (a3 : Int32)   (X : nx_X) (Z : nx_Z) : nx_J Γ X (RX7, cX7_write, 4, (some .int), "write", 7) Z (fun r0 : Int32 × nx_M => .inr (some (.int r0.1), (ov M0 r0.2))) (.inl (0, [some (.ref x), some (.int a1), some (.int a2), some (.int a3)], [], (ov M0 D))) (fC_write u Γ D x a1 a2 a3) := by
  unfold fC_write
  refine nx_aload_n rfl dX7_write_0 rfl ?_
  refine nx_iconst dX7_write_1 rfl ?_
  refine nx_iload_n rfl dX7_write_2 rfl ?_
  refine nx_iload_n rfl dX7_write_3 rfl ?_
  refine nx_iload_n rfl dX7_write_4 rfl ?_
  refine g_callGr [.int (iz 2), .int a1, .int a2, .int a3] (fun r => .int r.1) (fun r => r.2) cw_7_158 cv_X7_tried (fun r e => cC_tried X.2.1 e) rfl rfl (Nat.le_of_ble_eq_true rfl) (Nat.le_of_ble_eq_true rfl) dX7_write_5 rfl (fun p1 => ?_)
  exact nx_iret dX7_write_8 rfl rfl
theorem cC_write (l : Launch) {Γ : nx_G} {M0 : Nat → Option va_E} {u : Nat} {D : nx_M} {x : Nat} {a1 : Int32} {a2 : Int32} {a3 : Int32} {r : Int32 × nx_M}  (h : fC_write u Γ D x a1 a2 a3 = some r) : nx_Ct l Γ 7 yX7_write cX7_write 4 (some .int) [.ref x, .int a1, .int a2, .int a3] (ov M0 D) (some (.int r.1), (ov M0 r.2)) :=
  nx_ct (out := fun r0 : Int32 × nx_M => (some (.int r0.1), (ov M0 r0.2))) [some (.ref x), some (.int a1), some (.int a2), some (.int a3)] pn_RX7 h (Nat.le_of_ble_eq_true rfl) rfl (fun X Z _ => jC_write  u D x a1 a2 a3 X Z)
theorem dX7_commit_0 : decode cX7_commit 0 = .ok (.aload_n 0, 1) := by decide +kernel
theorem dX7_commit_1 : decode cX7_commit 1 = .ok (.iconst 3, 1) := by decide +kernel
theorem dX7_commit_2 : decode cX7_commit 2 = .ok (.iload_n 1, 1) := by decide +kernel
theorem dX7_commit_3 : decode cX7_commit 3 = .ok (.iconst (-1), 1) := by decide +kernel
theorem dX7_commit_4 : decode cX7_commit 4 = .ok (.iconst (-1), 1) := by decide +kernel
theorem dX7_commit_5 : decode cX7_commit 5 = .ok (.invokevirtual 158, 3) := by decide +kernel
theorem dX7_commit_8 : decode cX7_commit 8 = .ok (.ireturn, 1) := by decide +kernel
def fC_commit (u : Nat) (Γ : nx_G) (D : nx_M) (x : Nat) (a1 : Int32) : Option (Int32 × nx_M) :=
  (gAt D x 7 (fC_tried u Γ D x (iz 3) a1 (iz (-1)) (iz (-1)))).bind fun p1 =>
  some (p1.1, p1.2)
set_option maxRecDepth 4000 in
theorem jC_commit {Γ : nx_G} {M0 : Nat → Option va_E} (u : Nat) (D : nx_M) (x : Nat) (a1 : Int32)   (X : nx_X) (Z : nx_Z) : nx_J Γ X (RX7, cX7_commit, 2, (some .int), "commit", 7) Z (fun r0 : Int32 × nx_M => .inr (some (.int r0.1), (ov M0 r0.2))) (.inl (0, [some (.ref x), some (.int a1)], [], (ov M0 D))) (fC_commit u Γ D x a1) := by
  unfold fC_commit
  refine nx_aload_n rfl dX7_commit_0 rfl ?_
  refine nx_iconst dX7_commit_1 rfl ?_
  refine nx_iload_n rfl dX7_commit_2 rfl ?_
  refine nx_iconst dX7_commit_3 rfl ?_
  refine nx_iconst dX7_commit_4 rfl ?_
  refine g_callGr [.int (iz 3), .int a1, .int (iz (-1)), .int (iz (-1))] (fun r => .int r.1) (fun r => r.2) cw_7_158 cv_X7_tried (fun r e => cC_tried X.2.1 e) rfl rfl (Nat.le_of_ble_eq_true rfl) (Nat.le_of_ble_eq_true rfl) dX7_commit_5 rfl (fun p1 => ?_)
  exact nx_iret dX7_commit_8 rfl rfl
theorem cC_commit (l : Launch) {Γ : nx_G} {M0 : Nat → Option va_E} {u : Nat} {D : nx_M} {x : Nat} {a1 : Int32} {r : Int32 × nx_M}  (h : fC_commit u Γ D x a1 = some r) : nx_Ct l Γ 7 yX7_commit cX7_commit 2 (some .int) [.ref x, .int a1] (ov M0 D) (some (.int r.1), (ov M0 r.2)) :=
  nx_ct (out := fun r0 : Int32 × nx_M => (some (.int r0.1), (ov M0 r0.2))) [some (.ref x), some (.int a1)] pn_RX7 h (Nat.le_of_ble_eq_true rfl) rfl (fun X Z _ => jC_commit  u D x a1 X Z)
theorem dX7_abort_0 : decode cX7_abort 0 = .ok (.aload_n 0, 1) := by decide +kernel
theorem dX7_abort_1 : decode cX7_abort 1 = .ok (.iconst 4, 1) := by decide +kernel
theorem dX7_abort_2 : decode cX7_abort 2 = .ok (.iload_n 1, 1) := by decide +kernel
theorem dX7_abort_3 : decode cX7_abort 3 = .ok (.iconst (-1), 1) := by decide +kernel
theorem dX7_abort_4 : decode cX7_abort 4 = .ok (.iconst (-1), 1) := by decide +kernel
theorem dX7_abort_5 : decode cX7_abort 5 = .ok (.invokevirtual 158, 3) := by decide +kernel
theorem dX7_abort_8 : decode cX7_abort 8 = .ok (.ireturn, 1) := by decide +kernel
def fC_abort (u : Nat) (Γ : nx_G) (D : nx_M) (x : Nat) (a1 : Int32) : Option (Int32 × nx_M) :=
  (gAt D x 7 (fC_tried u Γ D x (iz 4) a1 (iz (-1)) (iz (-1)))).bind fun p1 =>
  some (p1.1, p1.2)
set_option maxRecDepth 4000 in
theorem jC_abort {Γ : nx_G} {M0 : Nat → Option va_E} (u : Nat) (D : nx_M) (x : Nat) (a1 : Int32)   (X : nx_X) (Z : nx_Z) : nx_J Γ X (RX7, cX7_abort, 2, (some .int), "abort", 7) Z (fun r0 : Int32 × nx_M => .inr (some (.int r0.1), (ov M0 r0.2))) (.inl (0, [some (.ref x), some (.int a1)], [], (ov M0 D))) (fC_abort u Γ D x a1) := by
  unfold fC_abort
  refine nx_aload_n rfl dX7_abort_0 rfl ?_
  refine nx_iconst dX7_abort_1 rfl ?_
  refine nx_iload_n rfl dX7_abort_2 rfl ?_
  refine nx_iconst dX7_abort_3 rfl ?_
  refine nx_iconst dX7_abort_4 rfl ?_
  refine g_callGr [.int (iz 4), .int a1, .int (iz (-1)), .int (iz (-1))] (fun r => .int r.1) (fun r => r.2) cw_7_158 cv_X7_tried (fun r e => cC_tried X.2.1 e) rfl rfl (Nat.le_of_ble_eq_true rfl) (Nat.le_of_ble_eq_true rfl) dX7_abort_5 rfl (fun p1 => ?_)
  exact nx_iret dX7_abort_8 rfl rfl
theorem cC_abort (l : Launch) {Γ : nx_G} {M0 : Nat → Option va_E} {u : Nat} {D : nx_M} {x : Nat} {a1 : Int32} {r : Int32 × nx_M}  (h : fC_abort u Γ D x a1 = some r) : nx_Ct l Γ 7 yX7_abort cX7_abort 2 (some .int) [.ref x, .int a1] (ov M0 D) (some (.int r.1), (ov M0 r.2)) :=
  nx_ct (out := fun r0 : Int32 × nx_M => (some (.int r0.1), (ov M0 r0.2))) [some (.ref x), some (.int a1)] pn_RX7 h (Nat.le_of_ble_eq_true rfl) rfl (fun X Z _ => jC_abort  u D x a1 X Z)
theorem dX7_retry_0 : decode cX7_retry 0 = .ok (.aload_n 0, 1) := by decide +kernel
theorem dX7_retry_1 : decode cX7_retry 1 = .ok (.bipush 7, 2) := by decide +kernel
theorem dX7_retry_3 : decode cX7_retry 3 = .ok (.iload_n 1, 1) := by decide +kernel
theorem dX7_retry_4 : decode cX7_retry 4 = .ok (.iconst (-1), 1) := by decide +kernel
theorem dX7_retry_5 : decode cX7_retry 5 = .ok (.iconst (-1), 1) := by decide +kernel
theorem dX7_retry_6 : decode cX7_retry 6 = .ok (.invokevirtual 162, 3) := by decide +kernel
theorem dX7_retry_9 : decode cX7_retry 9 = .ok (.ifCond .eq 5, 3) := by decide +kernel
theorem dX7_retry_12 : decode cX7_retry 12 = .ok (.iconst (-1), 1) := by decide +kernel
theorem dX7_retry_13 : decode cX7_retry 13 = .ok (.ireturn, 1) := by decide +kernel
theorem dX7_retry_14 : decode cX7_retry 14 = .ok (.aload_n 0, 1) := by decide +kernel
theorem dX7_retry_15 : decode cX7_retry 15 = .ok (.getfield 44, 3) := by decide +kernel
theorem dX7_retry_18 : decode cX7_retry 18 = .ok (.aload_n 0, 1) := by decide +kernel
theorem dX7_retry_19 : decode cX7_retry 19 = .ok (.getfield 37, 3) := by decide +kernel
theorem dX7_retry_22 : decode cX7_retry 22 = .ok (.invokevirtual 166, 3) := by decide +kernel
theorem dX7_retry_25 : decode cX7_retry 25 = .ok (.aload_n 0, 1) := by decide +kernel
theorem dX7_retry_26 : decode cX7_retry 26 = .ok (.getfield 37, 3) := by decide +kernel
theorem dX7_retry_29 : decode cX7_retry 29 = .ok (.iload_n 1, 1) := by decide +kernel
theorem dX7_retry_30 : decode cX7_retry 30 = .ok (.invokevirtual 170, 3) := by decide +kernel
theorem dX7_retry_33 : decode cX7_retry 33 = .ok (.ireturn, 1) := by decide +kernel
def fC_retry (u : Nat) (Γ : nx_G) (D : nx_M) (x : Nat) (a1 : Int32) : Option (Int32 × nx_M) :=
  (gAt D x 7 (fC_isRefused u Γ D x (iz 7) a1 (iz (-1)) (iz (-1)))).bind fun p1 =>
  if p1.1 = true then
    some ((iz (-1)), p1.2)
  else
    (gR p1.2 x 7 6).bind fun q2 =>
    (gR p1.2 x 7 5).bind fun q3 =>
    (gAt p1.2 q2 2 (fQ_keep u Γ p1.2 q2 q3)).bind fun D4 =>
    (gR D4 x 7 5).bind fun q5 =>
    (wWr Γ D4 q5 (fun f => fW_redoAll u f a1)).bind fun p6 =>
    some (p6.1, p6.2)
set_option maxRecDepth 4000 in
theorem jC_retry {Γ : nx_G} {M0 : Nat → Option va_E} (u : Nat) (D : nx_M) (x : Nat) (a1 : Int32)   (X : nx_X) (Z : nx_Z) : nx_J Γ X (RX7, cX7_retry, 2, (some .int), "retry", 7) Z (fun r0 : Int32 × nx_M => .inr (some (.int r0.1), (ov M0 r0.2))) (.inl (0, [some (.ref x), some (.int a1)], [], (ov M0 D))) (fC_retry u Γ D x a1) := by
  unfold fC_retry
  refine nx_aload_n rfl dX7_retry_0 rfl ?_
  refine nx_bipush (by decide +kernel) dX7_retry_1 rfl ?_
  refine nx_iload_n rfl dX7_retry_3 rfl ?_
  refine nx_iconst dX7_retry_4 rfl ?_
  refine nx_iconst dX7_retry_5 rfl ?_
  refine g_callGr [.int (iz 7), .int a1, .int (iz (-1)), .int (iz (-1))] (fun r => .int (bz r.1)) (fun r => r.2) cw_7_162 cv_X7_isRefused (fun r e => cC_isRefused X.2.1 e) rfl rfl (Nat.le_of_ble_eq_true rfl) (Nat.le_of_ble_eq_true rfl) dX7_retry_6 rfl (fun p1 => ?_)
  refine nx_ifz_eq (t := 14) dX7_retry_9 (by decide) rfl ?_ ?_
  · refine nx_aload_n rfl dX7_retry_14 rfl ?_
    refine g_getr (Or.inl fl_7_44) dX7_retry_15 rfl (fun q2 => ?_)
    refine nx_aload_n rfl dX7_retry_18 rfl ?_
    refine g_getr (Or.inl fl_7_37) dX7_retry_19 rfl (fun q3 => ?_)
    refine g_callGv [.ref q3] (fun r => r) cw_7_166 cv_X2_keep (fun r e => cQ_keep X.2.1 e) rfl rfl (Nat.le_of_ble_eq_true rfl) (Nat.le_of_ble_eq_true rfl) dX7_retry_22 rfl (fun D4 => ?_)
    refine nx_aload_n rfl dX7_retry_25 rfl ?_
    refine g_getr (Or.inl fl_7_37) dX7_retry_26 rfl (fun q5 => ?_)
    refine nx_iload_n rfl dX7_retry_29 rfl ?_
    refine g_callWw [.int a1] (fun r => .int r) cw_7_170 cv_X6_redoAll (fun M1 c f r hw hc e => cW_redoAll X.2.1 hw hc e) rfl rfl (Nat.le_of_ble_eq_true rfl) (Nat.le_of_ble_eq_true rfl) dX7_retry_30 rfl (fun p6 => ?_)
    exact nx_iret dX7_retry_33 rfl rfl
  · refine nx_iconst dX7_retry_12 rfl ?_
    exact nx_iret dX7_retry_13 rfl rfl
theorem cC_retry (l : Launch) {Γ : nx_G} {M0 : Nat → Option va_E} {u : Nat} {D : nx_M} {x : Nat} {a1 : Int32} {r : Int32 × nx_M}  (h : fC_retry u Γ D x a1 = some r) : nx_Ct l Γ 7 yX7_retry cX7_retry 2 (some .int) [.ref x, .int a1] (ov M0 D) (some (.int r.1), (ov M0 r.2)) :=
  nx_ct (out := fun r0 : Int32 × nx_M => (some (.int r0.1), (ov M0 r0.2))) [some (.ref x), some (.int a1)] pn_RX7 h (Nat.le_of_ble_eq_true rfl) rfl (fun X Z _ => jC_retry  u D x a1 X Z)
theorem dX7_prune_0 : decode cX7_prune 0 = .ok (.aload_n 0, 1) := by decide +kernel
theorem dX7_prune_1 : decode cX7_prune 1 = .ok (.iconst 5, 1) := by decide +kernel
theorem dX7_prune_2 : decode cX7_prune 2 = .ok (.iconst (-1), 1) := by decide +kernel
theorem dX7_prune_3 : decode cX7_prune 3 = .ok (.iconst (-1), 1) := by decide +kernel
theorem dX7_prune_4 : decode cX7_prune 4 = .ok (.iconst (-1), 1) := by decide +kernel
theorem dX7_prune_5 : decode cX7_prune 5 = .ok (.invokevirtual 158, 3) := by decide +kernel
theorem dX7_prune_8 : decode cX7_prune 8 = .ok (.ireturn, 1) := by decide +kernel
def fC_prune (u : Nat) (Γ : nx_G) (D : nx_M) (x : Nat) : Option (Int32 × nx_M) :=
  (gAt D x 7 (fC_tried u Γ D x (iz 5) (iz (-1)) (iz (-1)) (iz (-1)))).bind fun p1 =>
  some (p1.1, p1.2)
set_option maxRecDepth 4000 in
theorem jC_prune {Γ : nx_G} {M0 : Nat → Option va_E} (u : Nat) (D : nx_M) (x : Nat)   (X : nx_X) (Z : nx_Z) : nx_J Γ X (RX7, cX7_prune, 1, (some .int), "prune", 7) Z (fun r0 : Int32 × nx_M => .inr (some (.int r0.1), (ov M0 r0.2))) (.inl (0, [some (.ref x)], [], (ov M0 D))) (fC_prune u Γ D x) := by
  unfold fC_prune
  refine nx_aload_n rfl dX7_prune_0 rfl ?_
  refine nx_iconst dX7_prune_1 rfl ?_
  refine nx_iconst dX7_prune_2 rfl ?_
  refine nx_iconst dX7_prune_3 rfl ?_
  refine nx_iconst dX7_prune_4 rfl ?_
  refine g_callGr [.int (iz 5), .int (iz (-1)), .int (iz (-1)), .int (iz (-1))] (fun r => .int r.1) (fun r => r.2) cw_7_158 cv_X7_tried (fun r e => cC_tried X.2.1 e) rfl rfl (Nat.le_of_ble_eq_true rfl) (Nat.le_of_ble_eq_true rfl) dX7_prune_5 rfl (fun p1 => ?_)
  exact nx_iret dX7_prune_8 rfl rfl
theorem cC_prune (l : Launch) {Γ : nx_G} {M0 : Nat → Option va_E} {u : Nat} {D : nx_M} {x : Nat} {r : Int32 × nx_M}  (h : fC_prune u Γ D x = some r) : nx_Ct l Γ 7 yX7_prune cX7_prune 1 (some .int) [.ref x] (ov M0 D) (some (.int r.1), (ov M0 r.2)) :=
  nx_ct (out := fun r0 : Int32 × nx_M => (some (.int r0.1), (ov M0 r0.2))) [some (.ref x)] pn_RX7 h (Nat.le_of_ble_eq_true rfl) rfl (fun X Z _ => jC_prune  u D x X Z)
theorem dX7_triedQuietly_0 : decode cX7_triedQuietly 0 = .ok (.aload_n 0, 1) := by decide +kernel
theorem dX7_triedQuietly_1 : decode cX7_triedQuietly 1 = .ok (.getfield 37, 3) := by decide +kernel
theorem dX7_triedQuietly_4 : decode cX7_triedQuietly 4 = .ok (.iload_n 1, 1) := by decide +kernel
theorem dX7_triedQuietly_5 : decode cX7_triedQuietly 5 = .ok (.iload_n 2, 1) := by decide +kernel
theorem dX7_triedQuietly_6 : decode cX7_triedQuietly 6 = .ok (.iload_n 3, 1) := by decide +kernel
theorem dX7_triedQuietly_7 : decode cX7_triedQuietly 7 = .ok (.iload 4, 2) := by decide +kernel
theorem dX7_triedQuietly_9 : decode cX7_triedQuietly 9 = .ok (.invokevirtual 173, 3) := by decide +kernel
theorem dX7_triedQuietly_12 : decode cX7_triedQuietly 12 = .ok (.iconst (-1), 1) := by decide +kernel
theorem dX7_triedQuietly_13 : decode cX7_triedQuietly 13 = .ok (.if_icmp .eq 5, 3) := by decide +kernel
theorem dX7_triedQuietly_16 : decode cX7_triedQuietly 16 = .ok (.iconst 0, 1) := by decide +kernel
theorem dX7_triedQuietly_17 : decode cX7_triedQuietly 17 = .ok (.ireturn, 1) := by decide +kernel
theorem dX7_triedQuietly_18 : decode cX7_triedQuietly 18 = .ok (.aload_n 0, 1) := by decide +kernel
theorem dX7_triedQuietly_19 : decode cX7_triedQuietly 19 = .ok (.getfield 44, 3) := by decide +kernel
theorem dX7_triedQuietly_22 : decode cX7_triedQuietly 22 = .ok (.aload_n 0, 1) := by decide +kernel
theorem dX7_triedQuietly_23 : decode cX7_triedQuietly 23 = .ok (.getfield 37, 3) := by decide +kernel
theorem dX7_triedQuietly_26 : decode cX7_triedQuietly 26 = .ok (.invokevirtual 166, 3) := by decide +kernel
theorem dX7_triedQuietly_29 : decode cX7_triedQuietly 29 = .ok (.aload_n 0, 1) := by decide +kernel
theorem dX7_triedQuietly_30 : decode cX7_triedQuietly 30 = .ok (.getfield 37, 3) := by decide +kernel
theorem dX7_triedQuietly_33 : decode cX7_triedQuietly 33 = .ok (.iload_n 1, 1) := by decide +kernel
theorem dX7_triedQuietly_34 : decode cX7_triedQuietly 34 = .ok (.iload_n 2, 1) := by decide +kernel
theorem dX7_triedQuietly_35 : decode cX7_triedQuietly 35 = .ok (.iload_n 3, 1) := by decide +kernel
theorem dX7_triedQuietly_36 : decode cX7_triedQuietly 36 = .ok (.iload 4, 2) := by decide +kernel
theorem dX7_triedQuietly_38 : decode cX7_triedQuietly 38 = .ok (.invokevirtual 176, 3) := by decide +kernel
theorem dX7_triedQuietly_41 : decode cX7_triedQuietly 41 = .ok (.pop, 1) := by decide +kernel
theorem dX7_triedQuietly_42 : decode cX7_triedQuietly 42 = .ok (.iconst 1, 1) := by decide +kernel
theorem dX7_triedQuietly_43 : decode cX7_triedQuietly 43 = .ok (.ireturn, 1) := by decide +kernel
def fC_triedQuietly (u : Nat) (Γ : nx_G) (D : nx_M) (x : Nat) (a1 : Int32) (a2 : Int32) (a3 : Int32) (a4 : Int32) : Option (Bool × nx_M) :=
  (gR D x 7 5).bind fun q1 =>
  (wRd Γ D q1 (fun f => fW_refusal u f a1 a2 a3 a4)).bind fun x2 =>
  if x2 = (iz (-1)) then
    (gR D x 7 6).bind fun q3 =>
    (gR D x 7 5).bind fun q4 =>
    (gAt D q3 2 (fQ_keep u Γ D q3 q4)).bind fun D5 =>
    (gR D5 x 7 5).bind fun q6 =>
    (wWr Γ D5 q6 (fun f => fW_act u f a1 a2 a3 a4)).bind fun p7 =>
    some (true, p7.2)
  else
    some (false, D)
set_option maxRecDepth 4000 in
theorem jC_triedQuietly {Γ : nx_G} {M0 : Nat → Option va_E} (u : Nat) (D : nx_M) (x : Nat) (a1 : Int32) (a2 : Int32) (a3 : Int32) (a4 : Int32)   (X : nx_X) (Z : nx_Z) : nx_J Γ X (RX7, cX7_triedQuietly, 5, (some .boolean), "triedQuietly", 6) Z (fun r0 : Bool × nx_M => .inr (some (.int (bz r0.1)), (ov M0 r0.2))) (.inl (0, [some (.ref x), some (.int a1), some (.int a2), some (.int a3), some (.int a4)], [], (ov M0 D))) (fC_triedQuietly u Γ D x a1 a2 a3 a4) := by
  unfold fC_triedQuietly
  refine nx_aload_n rfl dX7_triedQuietly_0 rfl ?_
  refine g_getr (Or.inl fl_7_37) dX7_triedQuietly_1 rfl (fun q1 => ?_)
  refine nx_iload_n rfl dX7_triedQuietly_4 rfl ?_
  refine nx_iload_n rfl dX7_triedQuietly_5 rfl ?_
  refine nx_iload_n rfl dX7_triedQuietly_6 rfl ?_
  refine nx_iload rfl dX7_triedQuietly_7 rfl ?_
  refine g_callWr [.int a1, .int a2, .int a3, .int a4] (fun r => .int r) cw_7_173 cv_X6_refusal (fun M1 c f r hw hc e => cW_refusal X.2.1 hw hc e) rfl rfl (Nat.le_of_ble_eq_true rfl) (Nat.le_of_ble_eq_true rfl) dX7_triedQuietly_9 rfl (fun x2 => ?_)
  refine nx_iconst dX7_triedQuietly_12 rfl ?_
  refine nx_icmp_eq (t := 18) dX7_triedQuietly_13 (by decide) rfl ?_ ?_
  · refine nx_aload_n rfl dX7_triedQuietly_18 rfl ?_
    refine g_getr (Or.inl fl_7_44) dX7_triedQuietly_19 rfl (fun q3 => ?_)
    refine nx_aload_n rfl dX7_triedQuietly_22 rfl ?_
    refine g_getr (Or.inl fl_7_37) dX7_triedQuietly_23 rfl (fun q4 => ?_)
    refine g_callGv [.ref q4] (fun r => r) cw_7_166 cv_X2_keep (fun r e => cQ_keep X.2.1 e) rfl rfl (Nat.le_of_ble_eq_true rfl) (Nat.le_of_ble_eq_true rfl) dX7_triedQuietly_26 rfl (fun D5 => ?_)
    refine nx_aload_n rfl dX7_triedQuietly_29 rfl ?_
    refine g_getr (Or.inl fl_7_37) dX7_triedQuietly_30 rfl (fun q6 => ?_)
    refine nx_iload_n rfl dX7_triedQuietly_33 rfl ?_
    refine nx_iload_n rfl dX7_triedQuietly_34 rfl ?_
    refine nx_iload_n rfl dX7_triedQuietly_35 rfl ?_
    refine nx_iload rfl dX7_triedQuietly_36 rfl ?_
    refine g_callWw [.int a1, .int a2, .int a3, .int a4] (fun r => .int r) cw_7_176 cv_X6_act (fun M1 c f r hw hc e => cW_act X.2.1 hw hc e) rfl rfl (Nat.le_of_ble_eq_true rfl) (Nat.le_of_ble_eq_true rfl) dX7_triedQuietly_38 rfl (fun p7 => ?_)
    refine nx_pop rfl dX7_triedQuietly_41 rfl ?_
    refine nx_iconst dX7_triedQuietly_42 rfl ?_
    exact nx_zret (b := true) dX7_triedQuietly_43 rfl rfl
  · refine nx_iconst dX7_triedQuietly_16 rfl ?_
    exact nx_zret (b := false) dX7_triedQuietly_17 rfl rfl
theorem cC_triedQuietly (l : Launch) {Γ : nx_G} {M0 : Nat → Option va_E} {u : Nat} {D : nx_M} {x : Nat} {a1 : Int32} {a2 : Int32} {a3 : Int32} {a4 : Int32} {r : Bool × nx_M}  (h : fC_triedQuietly u Γ D x a1 a2 a3 a4 = some r) : nx_Ct l Γ 6 yX7_triedQuietly cX7_triedQuietly 5 (some .boolean) [.ref x, .int a1, .int a2, .int a3, .int a4] (ov M0 D) (some (.int (bz r.1)), (ov M0 r.2)) :=
  nx_ct (out := fun r0 : Bool × nx_M => (some (.int (bz r0.1)), (ov M0 r0.2))) [some (.ref x), some (.int a1), some (.int a2), some (.int a3), some (.int a4)] pn_RX7 h (Nat.le_of_ble_eq_true rfl) rfl (fun X Z _ => jC_triedQuietly  u D x a1 a2 a3 a4 X Z)
theorem dX7_oneYear_0 : decode cX7_oneYear 0 = .ok (.aload_n 0, 1) := by decide +kernel
theorem dX7_oneYear_1 : decode cX7_oneYear 1 = .ok (.getfield 61, 3) := by decide +kernel
theorem dX7_oneYear_4 : decode cX7_oneYear 4 = .ok (.bipush 8, 2) := by decide +kernel
theorem dX7_oneYear_6 : decode cX7_oneYear 6 = .ok (.invokevirtual 188, 3) := by decide +kernel
theorem dX7_oneYear_9 : decode cX7_oneYear 9 = .ok (.istore_n 1, 1) := by decide +kernel
theorem dX7_oneYear_10 : decode cX7_oneYear 10 = .ok (.aload_n 0, 1) := by decide +kernel
theorem dX7_oneYear_11 : decode cX7_oneYear 11 = .ok (.getfield 61, 3) := by decide +kernel
theorem dX7_oneYear_14 : decode cX7_oneYear 14 = .ok (.bipush 8, 2) := by decide +kernel
theorem dX7_oneYear_16 : decode cX7_oneYear 16 = .ok (.invokevirtual 188, 3) := by decide +kernel
theorem dX7_oneYear_19 : decode cX7_oneYear 19 = .ok (.istore_n 2, 1) := by decide +kernel
theorem dX7_oneYear_20 : decode cX7_oneYear 20 = .ok (.iload_n 1, 1) := by decide +kernel
theorem dX7_oneYear_21 : decode cX7_oneYear 21 = .ok (.ifCond .ne 22, 3) := by decide +kernel
theorem dX7_oneYear_24 : decode cX7_oneYear 24 = .ok (.aload_n 0, 1) := by decide +kernel
theorem dX7_oneYear_25 : decode cX7_oneYear 25 = .ok (.iconst 0, 1) := by decide +kernel
theorem dX7_oneYear_26 : decode cX7_oneYear 26 = .ok (.iload_n 2, 1) := by decide +kernel
theorem dX7_oneYear_27 : decode cX7_oneYear 27 = .ok (.aload_n 0, 1) := by decide +kernel
theorem dX7_oneYear_28 : decode cX7_oneYear 28 = .ok (.getfield 61, 3) := by decide +kernel
theorem dX7_oneYear_31 : decode cX7_oneYear 31 = .ok (.iconst 2, 1) := by decide +kernel
theorem dX7_oneYear_32 : decode cX7_oneYear 32 = .ok (.invokevirtual 188, 3) := by decide +kernel
theorem dX7_oneYear_35 : decode cX7_oneYear 35 = .ok (.iconst (-1), 1) := by decide +kernel
theorem dX7_oneYear_36 : decode cX7_oneYear 36 = .ok (.invokevirtual 191, 3) := by decide +kernel
theorem dX7_oneYear_39 : decode cX7_oneYear 39 = .ok (.pop, 1) := by decide +kernel
theorem dX7_oneYear_40 : decode cX7_oneYear 40 = .ok (.goto 92, 3) := by decide +kernel
theorem dX7_oneYear_43 : decode cX7_oneYear 43 = .ok (.iload_n 1, 1) := by decide +kernel
theorem dX7_oneYear_44 : decode cX7_oneYear 44 = .ok (.iconst 2, 1) := by decide +kernel
theorem dX7_oneYear_45 : decode cX7_oneYear 45 = .ok (.if_icmp .gt 28, 3) := by decide +kernel
theorem dX7_oneYear_48 : decode cX7_oneYear 48 = .ok (.aload_n 0, 1) := by decide +kernel
theorem dX7_oneYear_49 : decode cX7_oneYear 49 = .ok (.iconst 1, 1) := by decide +kernel
theorem dX7_oneYear_50 : decode cX7_oneYear 50 = .ok (.iload_n 2, 1) := by decide +kernel
theorem dX7_oneYear_51 : decode cX7_oneYear 51 = .ok (.aload_n 0, 1) := by decide +kernel
theorem dX7_oneYear_52 : decode cX7_oneYear 52 = .ok (.getfield 61, 3) := by decide +kernel
theorem dX7_oneYear_55 : decode cX7_oneYear 55 = .ok (.aload_n 0, 1) := by decide +kernel
theorem dX7_oneYear_56 : decode cX7_oneYear 56 = .ok (.getfield 37, 3) := by decide +kernel
theorem dX7_oneYear_59 : decode cX7_oneYear 59 = .ok (.invokevirtual 104, 3) := by decide +kernel
theorem dX7_oneYear_62 : decode cX7_oneYear 62 = .ok (.invokevirtual 188, 3) := by decide +kernel
theorem dX7_oneYear_65 : decode cX7_oneYear 65 = .ok (.iconst (-1), 1) := by decide +kernel
theorem dX7_oneYear_66 : decode cX7_oneYear 66 = .ok (.invokevirtual 191, 3) := by decide +kernel
theorem dX7_oneYear_69 : decode cX7_oneYear 69 = .ok (.pop, 1) := by decide +kernel
theorem dX7_oneYear_70 : decode cX7_oneYear 70 = .ok (.goto 62, 3) := by decide +kernel
theorem dX7_oneYear_73 : decode cX7_oneYear 73 = .ok (.iload_n 1, 1) := by decide +kernel
theorem dX7_oneYear_74 : decode cX7_oneYear 74 = .ok (.iconst 4, 1) := by decide +kernel
theorem dX7_oneYear_75 : decode cX7_oneYear 75 = .ok (.if_icmp .gt 38, 3) := by decide +kernel
theorem dX7_oneYear_78 : decode cX7_oneYear 78 = .ok (.aload_n 0, 1) := by decide +kernel
theorem dX7_oneYear_79 : decode cX7_oneYear 79 = .ok (.getfield 61, 3) := by decide +kernel
theorem dX7_oneYear_82 : decode cX7_oneYear 82 = .ok (.aload_n 0, 1) := by decide +kernel
theorem dX7_oneYear_83 : decode cX7_oneYear 83 = .ok (.getfield 37, 3) := by decide +kernel
theorem dX7_oneYear_86 : decode cX7_oneYear 86 = .ok (.invokevirtual 104, 3) := by decide +kernel
theorem dX7_oneYear_89 : decode cX7_oneYear 89 = .ok (.invokevirtual 188, 3) := by decide +kernel
theorem dX7_oneYear_92 : decode cX7_oneYear 92 = .ok (.istore_n 3, 1) := by decide +kernel
theorem dX7_oneYear_93 : decode cX7_oneYear 93 = .ok (.aload_n 0, 1) := by decide +kernel
theorem dX7_oneYear_94 : decode cX7_oneYear 94 = .ok (.iconst 2, 1) := by decide +kernel
theorem dX7_oneYear_95 : decode cX7_oneYear 95 = .ok (.iload_n 2, 1) := by decide +kernel
theorem dX7_oneYear_96 : decode cX7_oneYear 96 = .ok (.iload_n 3, 1) := by decide +kernel
theorem dX7_oneYear_97 : decode cX7_oneYear 97 = .ok (.aload_n 0, 1) := by decide +kernel
theorem dX7_oneYear_98 : decode cX7_oneYear 98 = .ok (.getfield 61, 3) := by decide +kernel
theorem dX7_oneYear_101 : decode cX7_oneYear 101 = .ok (.bipush 100, 2) := by decide +kernel
theorem dX7_oneYear_103 : decode cX7_oneYear 103 = .ok (.invokevirtual 188, 3) := by decide +kernel
theorem dX7_oneYear_106 : decode cX7_oneYear 106 = .ok (.invokevirtual 191, 3) := by decide +kernel
theorem dX7_oneYear_109 : decode cX7_oneYear 109 = .ok (.pop, 1) := by decide +kernel
theorem dX7_oneYear_110 : decode cX7_oneYear 110 = .ok (.goto 22, 3) := by decide +kernel
theorem dX7_oneYear_113 : decode cX7_oneYear 113 = .ok (.aload_n 0, 1) := by decide +kernel
theorem dX7_oneYear_114 : decode cX7_oneYear 114 = .ok (.iload_n 1, 1) := by decide +kernel
theorem dX7_oneYear_115 : decode cX7_oneYear 115 = .ok (.bipush 6, 2) := by decide +kernel
theorem dX7_oneYear_117 : decode cX7_oneYear 117 = .ok (.if_icmp .gt 7, 3) := by decide +kernel
theorem dX7_oneYear_120 : decode cX7_oneYear 120 = .ok (.iconst 3, 1) := by decide +kernel
theorem dX7_oneYear_121 : decode cX7_oneYear 121 = .ok (.goto 4, 3) := by decide +kernel
theorem dX7_oneYear_124 : decode cX7_oneYear 124 = .ok (.iconst 4, 1) := by decide +kernel
theorem dX7_oneYear_125 : decode cX7_oneYear 125 = .ok (.iload_n 2, 1) := by decide +kernel
theorem dX7_oneYear_126 : decode cX7_oneYear 126 = .ok (.iconst (-1), 1) := by decide +kernel
theorem dX7_oneYear_127 : decode cX7_oneYear 127 = .ok (.iconst (-1), 1) := by decide +kernel
theorem dX7_oneYear_128 : decode cX7_oneYear 128 = .ok (.invokevirtual 191, 3) := by decide +kernel
theorem dX7_oneYear_131 : decode cX7_oneYear 131 = .ok (.pop, 1) := by decide +kernel
theorem dX7_oneYear_132 : decode cX7_oneYear 132 = .ok (.return_, 1) := by decide +kernel
def fC_oneYear (u : Nat) (Γ : nx_G) (D : nx_M) (x : Nat) : Option (nx_M) :=
  (gR D x 7 10).bind fun q1 =>
  (gAt D q1 1 (fR_next u Γ D q1 (iz 8))).bind fun p2 =>
  (gR p2.2 x 7 10).bind fun q3 =>
  (gAt p2.2 q3 1 (fR_next u Γ p2.2 q3 (iz 8))).bind fun p4 =>
  if p2.1 = iz 0 then
    (gR p4.2 x 7 10).bind fun q19 =>
    (gAt p4.2 q19 1 (fR_next u Γ p4.2 q19 (iz 2))).bind fun p20 =>
    (gAt p20.2 x 7 (fC_triedQuietly u Γ p20.2 x (iz 0) p4.1 p20.1 (iz (-1)))).bind fun p21 =>
    some p21.2
  else
    if (iz 2) < p2.1 then
      if (iz 4) < p2.1 then
        (if (iz 6) < p2.1 then
           some (iz 4)
         else
           some (iz 3) : Option (Int32)).bind fun s5 =>
        (gAt p4.2 x 7 (fC_triedQuietly u Γ p4.2 x s5 p4.1 (iz (-1)) (iz (-1)))).bind fun p6 =>
        some p6.2
      else
        (gR p4.2 x 7 10).bind fun q7 =>
        (gR p4.2 x 7 5).bind fun q8 =>
        (wRd Γ p4.2 q8 (fun f => fW_keys u f)).bind fun x9 =>
        (gAt p4.2 q7 1 (fR_next u Γ p4.2 q7 x9)).bind fun p10 =>
        (gR p10.2 x 7 10).bind fun q11 =>
        (gAt p10.2 q11 1 (fR_next u Γ p10.2 q11 (iz 100))).bind fun p12 =>
        (gAt p12.2 x 7 (fC_triedQuietly u Γ p12.2 x (iz 2) p4.1 p10.1 p12.1)).bind fun p13 =>
        some p13.2
    else
      (gR p4.2 x 7 10).bind fun q14 =>
      (gR p4.2 x 7 5).bind fun q15 =>
      (wRd Γ p4.2 q15 (fun f => fW_keys u f)).bind fun x16 =>
      (gAt p4.2 q14 1 (fR_next u Γ p4.2 q14 x16)).bind fun p17 =>
      (gAt p17.2 x 7 (fC_triedQuietly u Γ p17.2 x (iz 1) p4.1 p17.1 (iz (-1)))).bind fun p18 =>
      some p18.2
set_option maxRecDepth 4000 in
theorem jC_oneYear {Γ : nx_G} {M0 : Nat → Option va_E} (u : Nat) (D : nx_M) (x : Nat)   (X : nx_X) (Z : nx_Z) : nx_J Γ X (RX7, cX7_oneYear, 4, none, "oneYear", 7) Z (fun r0 : nx_M => .inr (none, (ov M0 r0))) (.inl (0, [some (.ref x), none, none, none], [], (ov M0 D))) (fC_oneYear u Γ D x) := by
  unfold fC_oneYear
  refine nx_aload_n rfl dX7_oneYear_0 rfl ?_
  refine g_getr (Or.inl fl_7_61) dX7_oneYear_1 rfl (fun q1 => ?_)
  refine nx_bipush (by decide +kernel) dX7_oneYear_4 rfl ?_
  refine g_callGr [.int (iz 8)] (fun r => .int r.1) (fun r => r.2) cw_7_188 cv_X1_next (fun r e => cR_next X.2.1 e) rfl rfl (Nat.le_of_ble_eq_true rfl) (Nat.le_of_ble_eq_true rfl) dX7_oneYear_6 rfl (fun p2 => ?_)
  refine nx_istore_n [some (.ref x), some (.int p2.1), none, none] dX7_oneYear_9 rfl (Nat.le_of_ble_eq_true rfl) rfl rfl ?_
  refine nx_aload_n rfl dX7_oneYear_10 rfl ?_
  refine g_getr (Or.inl fl_7_61) dX7_oneYear_11 rfl (fun q3 => ?_)
  refine nx_bipush (by decide +kernel) dX7_oneYear_14 rfl ?_
  refine g_callGr [.int (iz 8)] (fun r => .int r.1) (fun r => r.2) cw_7_188 cv_X1_next (fun r e => cR_next X.2.1 e) rfl rfl (Nat.le_of_ble_eq_true rfl) (Nat.le_of_ble_eq_true rfl) dX7_oneYear_16 rfl (fun p4 => ?_)
  refine nx_istore_n [some (.ref x), some (.int p2.1), some (.int p4.1), none] dX7_oneYear_19 rfl (Nat.le_of_ble_eq_true rfl) rfl rfl ?_
  refine nx_iload_n rfl dX7_oneYear_20 rfl ?_
  refine nx_if_ne (t := 43) dX7_oneYear_21 (by decide) rfl ?_ ?_
  · refine nx_iload_n rfl dX7_oneYear_43 rfl ?_
    refine nx_iconst dX7_oneYear_44 rfl ?_
    refine nx_icmp_gt (t := 73) dX7_oneYear_45 (by decide) rfl ?_ ?_
    · refine nx_iload_n rfl dX7_oneYear_73 rfl ?_
      refine nx_iconst dX7_oneYear_74 rfl ?_
      refine nx_icmp_gt (t := 113) dX7_oneYear_75 (by decide) rfl ?_ ?_
      · refine nx_aload_n rfl dX7_oneYear_113 rfl ?_
        refine nx_iload_n rfl dX7_oneYear_114 rfl ?_
        refine nx_bipush (by decide +kernel) dX7_oneYear_115 rfl ?_
        refine nx_seq (C1 := fun s5 : Int32 => .inl (125, [some (.ref x), some (.int p2.1), some (.int p4.1), none], [.int s5, .ref x], (ov M0 p4.2))) ?_ (fun s5 => ?_)
        · refine nx_icmp_gt (t := 124) dX7_oneYear_117 (by decide) rfl ?_ ?_
          · refine nx_iconst dX7_oneYear_124 rfl ?_
            obtain ⟨_, _⟩ := p2
            obtain ⟨_, _⟩ := p4
            exact nx_leaf rfl
          · refine nx_iconst dX7_oneYear_120 rfl ?_
            refine nx_goto (q := 125) dX7_oneYear_121 (by decide) ?_
            obtain ⟨_, _⟩ := p2
            obtain ⟨_, _⟩ := p4
            exact nx_leaf rfl
        refine nx_iload_n rfl dX7_oneYear_125 rfl ?_
        refine nx_iconst dX7_oneYear_126 rfl ?_
        refine nx_iconst dX7_oneYear_127 rfl ?_
        refine g_callGr [.int s5, .int p4.1, .int (iz (-1)), .int (iz (-1))] (fun r => .int (bz r.1)) (fun r => r.2) cw_7_191 cv_X7_triedQuietly (fun r e => cC_triedQuietly X.2.1 e) rfl rfl (Nat.le_of_ble_eq_true rfl) (Nat.le_of_ble_eq_true rfl) dX7_oneYear_128 rfl (fun p6 => ?_)
        refine nx_pop rfl dX7_oneYear_131 rfl ?_
        exact nx_vret dX7_oneYear_132 rfl rfl
      · refine nx_aload_n rfl dX7_oneYear_78 rfl ?_
        refine g_getr (Or.inl fl_7_61) dX7_oneYear_79 rfl (fun q7 => ?_)
        refine nx_aload_n rfl dX7_oneYear_82 rfl ?_
        refine g_getr (Or.inl fl_7_37) dX7_oneYear_83 rfl (fun q8 => ?_)
        refine g_callWr [] (fun r => .int r) cw_7_104 cv_X6_keys (fun M1 c f r hw hc e => cW_keys X.2.1 hw hc e) rfl rfl (Nat.le_of_ble_eq_true rfl) (Nat.le_of_ble_eq_true rfl) dX7_oneYear_86 rfl (fun x9 => ?_)
        refine g_callGr [.int x9] (fun r => .int r.1) (fun r => r.2) cw_7_188 cv_X1_next (fun r e => cR_next X.2.1 e) rfl rfl (Nat.le_of_ble_eq_true rfl) (Nat.le_of_ble_eq_true rfl) dX7_oneYear_89 rfl (fun p10 => ?_)
        refine nx_istore_n [some (.ref x), some (.int p2.1), some (.int p4.1), some (.int p10.1)] dX7_oneYear_92 rfl (Nat.le_of_ble_eq_true rfl) rfl rfl ?_
        refine nx_aload_n rfl dX7_oneYear_93 rfl ?_
        refine nx_iconst dX7_oneYear_94 rfl ?_
        refine nx_iload_n rfl dX7_oneYear_95 rfl ?_
        refine nx_iload_n rfl dX7_oneYear_96 rfl ?_
        refine nx_aload_n rfl dX7_oneYear_97 rfl ?_
        refine g_getr (Or.inl fl_7_61) dX7_oneYear_98 rfl (fun q11 => ?_)
        refine nx_bipush (by decide +kernel) dX7_oneYear_101 rfl ?_
        refine g_callGr [.int (iz 100)] (fun r => .int r.1) (fun r => r.2) cw_7_188 cv_X1_next (fun r e => cR_next X.2.1 e) rfl rfl (Nat.le_of_ble_eq_true rfl) (Nat.le_of_ble_eq_true rfl) dX7_oneYear_103 rfl (fun p12 => ?_)
        refine g_callGr [.int (iz 2), .int p4.1, .int p10.1, .int p12.1] (fun r => .int (bz r.1)) (fun r => r.2) cw_7_191 cv_X7_triedQuietly (fun r e => cC_triedQuietly X.2.1 e) rfl rfl (Nat.le_of_ble_eq_true rfl) (Nat.le_of_ble_eq_true rfl) dX7_oneYear_106 rfl (fun p13 => ?_)
        refine nx_pop rfl dX7_oneYear_109 rfl ?_
        refine nx_goto (q := 132) dX7_oneYear_110 (by decide) ?_
        exact nx_vret dX7_oneYear_132 rfl rfl
    · refine nx_aload_n rfl dX7_oneYear_48 rfl ?_
      refine nx_iconst dX7_oneYear_49 rfl ?_
      refine nx_iload_n rfl dX7_oneYear_50 rfl ?_
      refine nx_aload_n rfl dX7_oneYear_51 rfl ?_
      refine g_getr (Or.inl fl_7_61) dX7_oneYear_52 rfl (fun q14 => ?_)
      refine nx_aload_n rfl dX7_oneYear_55 rfl ?_
      refine g_getr (Or.inl fl_7_37) dX7_oneYear_56 rfl (fun q15 => ?_)
      refine g_callWr [] (fun r => .int r) cw_7_104 cv_X6_keys (fun M1 c f r hw hc e => cW_keys X.2.1 hw hc e) rfl rfl (Nat.le_of_ble_eq_true rfl) (Nat.le_of_ble_eq_true rfl) dX7_oneYear_59 rfl (fun x16 => ?_)
      refine g_callGr [.int x16] (fun r => .int r.1) (fun r => r.2) cw_7_188 cv_X1_next (fun r e => cR_next X.2.1 e) rfl rfl (Nat.le_of_ble_eq_true rfl) (Nat.le_of_ble_eq_true rfl) dX7_oneYear_62 rfl (fun p17 => ?_)
      refine nx_iconst dX7_oneYear_65 rfl ?_
      refine g_callGr [.int (iz 1), .int p4.1, .int p17.1, .int (iz (-1))] (fun r => .int (bz r.1)) (fun r => r.2) cw_7_191 cv_X7_triedQuietly (fun r e => cC_triedQuietly X.2.1 e) rfl rfl (Nat.le_of_ble_eq_true rfl) (Nat.le_of_ble_eq_true rfl) dX7_oneYear_66 rfl (fun p18 => ?_)
      refine nx_pop rfl dX7_oneYear_69 rfl ?_
      refine nx_goto (q := 132) dX7_oneYear_70 (by decide) ?_
      exact nx_vret dX7_oneYear_132 rfl rfl
  · refine nx_aload_n rfl dX7_oneYear_24 rfl ?_
    refine nx_iconst dX7_oneYear_25 rfl ?_
    refine nx_iload_n rfl dX7_oneYear_26 rfl ?_
    refine nx_aload_n rfl dX7_oneYear_27 rfl ?_
    refine g_getr (Or.inl fl_7_61) dX7_oneYear_28 rfl (fun q19 => ?_)
    refine nx_iconst dX7_oneYear_31 rfl ?_
    refine g_callGr [.int (iz 2)] (fun r => .int r.1) (fun r => r.2) cw_7_188 cv_X1_next (fun r e => cR_next X.2.1 e) rfl rfl (Nat.le_of_ble_eq_true rfl) (Nat.le_of_ble_eq_true rfl) dX7_oneYear_32 rfl (fun p20 => ?_)
    refine nx_iconst dX7_oneYear_35 rfl ?_
    refine g_callGr [.int (iz 0), .int p4.1, .int p20.1, .int (iz (-1))] (fun r => .int (bz r.1)) (fun r => r.2) cw_7_191 cv_X7_triedQuietly (fun r e => cC_triedQuietly X.2.1 e) rfl rfl (Nat.le_of_ble_eq_true rfl) (Nat.le_of_ble_eq_true rfl) dX7_oneYear_36 rfl (fun p21 => ?_)
    refine nx_pop rfl dX7_oneYear_39 rfl ?_
    refine nx_goto (q := 132) dX7_oneYear_40 (by decide) ?_
    exact nx_vret dX7_oneYear_132 rfl rfl
theorem cC_oneYear (l : Launch) {Γ : nx_G} {M0 : Nat → Option va_E} {u : Nat} {D : nx_M} {x : Nat} {r : nx_M}  (h : fC_oneYear u Γ D x = some r) : nx_Ct l Γ 7 yX7_oneYear cX7_oneYear 4 none [.ref x] (ov M0 D) (none, (ov M0 r)) :=
  nx_ct (out := fun r0 : nx_M => (none, (ov M0 r0))) [some (.ref x), none, none, none] pn_RX7 h (Nat.le_of_ble_eq_true rfl) rfl (fun X Z _ => jC_oneYear  u D x X Z)
theorem dX7_years_0 : decode cX7_years 0 = .ok (.aload_n 0, 1) := by decide +kernel
theorem dX7_years_1 : decode cX7_years 1 = .ok (.getfield 37, 3) := by decide +kernel
theorem dX7_years_4 : decode cX7_years 4 = .ok (.invokevirtual 110, 3) := by decide +kernel
theorem dX7_years_7 : decode cX7_years 7 = .ok (.ifCond .eq 14, 3) := by decide +kernel
theorem dX7_years_10 : decode cX7_years 10 = .ok (.iload_n 1, 1) := by decide +kernel
theorem dX7_years_11 : decode cX7_years 11 = .ok (.iconst 1, 1) := by decide +kernel
theorem dX7_years_12 : decode cX7_years 12 = .ok (.if_icmp .lt 9, 3) := by decide +kernel
theorem dX7_years_15 : decode cX7_years 15 = .ok (.iload_n 1, 1) := by decide +kernel
theorem dX7_years_16 : decode cX7_years 16 = .ok (.bipush 40, 2) := by decide +kernel
theorem dX7_years_18 : decode cX7_years 18 = .ok (.if_icmp .le 5, 3) := by decide +kernel
theorem dX7_years_21 : decode cX7_years 21 = .ok (.iconst (-1), 1) := by decide +kernel
theorem dX7_years_22 : decode cX7_years 22 = .ok (.ireturn, 1) := by decide +kernel
theorem dX7_years_23 : decode cX7_years 23 = .ok (.aload_n 0, 1) := by decide +kernel
theorem dX7_years_24 : decode cX7_years 24 = .ok (.getfield 61, 3) := by decide +kernel
theorem dX7_years_27 : decode cX7_years 27 = .ok (.lload_n 2, 1) := by decide +kernel
theorem dX7_years_28 : decode cX7_years 28 = .ok (.invokevirtual 179, 3) := by decide +kernel
theorem dX7_years_31 : decode cX7_years 31 = .ok (.iconst 0, 1) := by decide +kernel
theorem dX7_years_32 : decode cX7_years 32 = .ok (.istore 4, 2) := by decide +kernel
theorem dX7_years_34 : decode cX7_years 34 = .ok (.iload 4, 2) := by decide +kernel
theorem dX7_years_36 : decode cX7_years 36 = .ok (.iload_n 1, 1) := by decide +kernel
theorem dX7_years_37 : decode cX7_years 37 = .ok (.if_icmp .ge 13, 3) := by decide +kernel
theorem dX7_years_40 : decode cX7_years 40 = .ok (.aload_n 0, 1) := by decide +kernel
theorem dX7_years_41 : decode cX7_years 41 = .ok (.invokevirtual 182, 3) := by decide +kernel
theorem dX7_years_44 : decode cX7_years 44 = .ok (.iinc 4 1, 3) := by decide +kernel
theorem dX7_years_47 : decode cX7_years 47 = .ok (.goto (-13), 3) := by decide +kernel
theorem dX7_years_50 : decode cX7_years 50 = .ok (.aload_n 0, 1) := by decide +kernel
theorem dX7_years_51 : decode cX7_years 51 = .ok (.getfield 37, 3) := by decide +kernel
theorem dX7_years_54 : decode cX7_years 54 = .ok (.invokevirtual 185, 3) := by decide +kernel
theorem dX7_years_57 : decode cX7_years 57 = .ok (.ireturn, 1) := by decide +kernel
def fC_years_34 (u : Nat) (Γ : nx_G) (x : Nat) (a1 : Int32) (s5 : Int32 × nx_M) : Option ((Int32 × nx_M) ⊕ (nx_M)) :=
  if a1 ≤ s5.1 then
    some (.inr s5.2)
  else
    (gAt s5.2 x 7 (fC_oneYear u Γ s5.2 x)).bind fun D6 =>
    some (.inl ((s5.1 + iz 1), D6))
def fC_years (u : Nat) (Γ : nx_G) (D : nx_M) (x : Nat) (a1 : Int32) (a2 : Int64) : Option (Int32 × nx_M) :=
  (gR D x 7 5).bind fun q1 =>
  (wRd Γ D q1 (fun f => fW_hasStore u f)).bind fun b2 =>
  if b2 = true then
    if a1 < (iz 1) then
      some ((iz (-1)), D)
    else
      if a1 ≤ (iz 40) then
        (gR D x 7 10).bind fun q3 =>
        (gAt D q3 1 (fR_begin u Γ D q3 a2)).bind fun D4 =>
        (nx_iter u (fC_years_34 u Γ x a1) ((iz 0), D4)).bind fun e7 =>
        (gR e7 x 7 5).bind fun q8 =>
        (wRd Γ e7 q8 (fun f => fW_clock u f)).bind fun x9 =>
        some (x9, e7)
      else
        some ((iz (-1)), D)
  else
    some ((iz (-1)), D)
set_option maxRecDepth 4000 in
theorem jC_years_34 {Γ : nx_G} {M0 : Nat → Option va_E} (u : Nat) (x : Nat) (a1 : Int32) (a2 : Int64)   (X : nx_X) (Z : nx_Z) (s5 : Int32 × nx_M) : nx_J Γ X (RX7, cX7_years, 5, (some .int), "years", 8) Z (Sum.elim (fun s5 : Int32 × nx_M => .inl (34, [some (.ref x), some (.int a1), some (.long a2), none, some (.int s5.1)], [], (ov M0 s5.2))) (fun e7 : nx_M => .inl (50, [some (.ref x), some (.int a1), some (.long a2), none, none], [], (ov M0 e7)))) (.inl (34, [some (.ref x), some (.int a1), some (.long a2), none, some (.int s5.1)], [], (ov M0 s5.2))) (fC_years_34 u Γ x a1 s5) := by
  unfold fC_years_34
  refine nx_iload rfl dX7_years_34 rfl ?_
  refine nx_iload_n rfl dX7_years_36 rfl ?_
  refine nx_icmp_ge (t := 50) dX7_years_37 (by decide) rfl ?_ ?_
  · refine nx_weak (ls' := [some (.ref x), some (.int a1), some (.long a2), none, none]) (nx_wk_s (nx_wk_s (nx_wk_s (nx_wk_n (nx_wk_n nx_wk_e))))) ?_
    obtain ⟨_, _⟩ := s5
    exact nx_leaf rfl
  · refine nx_aload_n rfl dX7_years_40 rfl ?_
    refine g_callGv [] (fun r => r) cw_7_182 cv_X7_oneYear (fun r e => cC_oneYear X.2.1 e) rfl rfl (Nat.le_of_ble_eq_true rfl) (Nat.le_of_ble_eq_true rfl) dX7_years_41 rfl (fun D6 => ?_)
    refine nx_iinc [some (.ref x), some (.int a1), some (.long a2), none, some (.int (s5.1 + iz 1))] dX7_years_44 rfl rfl (Nat.le_of_ble_eq_true rfl) rfl rfl ?_
    refine nx_goto (q := 34) dX7_years_47 (by decide) ?_
    obtain ⟨_, _⟩ := s5
    exact nx_leaf rfl
set_option maxRecDepth 4000 in
theorem jC_years {Γ : nx_G} {M0 : Nat → Option va_E} (u : Nat) (D : nx_M) (x : Nat) (a1 : Int32) (a2 : Int64)   (X : nx_X) (Z : nx_Z) : nx_J Γ X (RX7, cX7_years, 5, (some .int), "years", 8) Z (fun r0 : Int32 × nx_M => .inr (some (.int r0.1), (ov M0 r0.2))) (.inl (0, [some (.ref x), some (.int a1), some (.long a2), none, none], [], (ov M0 D))) (fC_years u Γ D x a1 a2) := by
  unfold fC_years
  refine nx_aload_n rfl dX7_years_0 rfl ?_
  refine g_getr (Or.inl fl_7_37) dX7_years_1 rfl (fun q1 => ?_)
  refine g_callWr [] (fun r => .int (bz r)) cw_7_110 cv_X6_hasStore (fun M1 c f r hw hc e => cW_hasStore X.2.1 hw hc e) rfl rfl (Nat.le_of_ble_eq_true rfl) (Nat.le_of_ble_eq_true rfl) dX7_years_4 rfl (fun b2 => ?_)
  refine nx_ifz_eq (t := 21) dX7_years_7 (by decide) rfl ?_ ?_
  · refine nx_iconst dX7_years_21 rfl ?_
    exact nx_iret dX7_years_22 rfl rfl
  · refine nx_iload_n rfl dX7_years_10 rfl ?_
    refine nx_iconst dX7_years_11 rfl ?_
    refine nx_icmp_lt (t := 21) dX7_years_12 (by decide) rfl ?_ ?_
    · refine nx_iconst dX7_years_21 rfl ?_
      exact nx_iret dX7_years_22 rfl rfl
    · refine nx_iload_n rfl dX7_years_15 rfl ?_
      refine nx_bipush (by decide +kernel) dX7_years_16 rfl ?_
      refine nx_icmp_le (t := 23) dX7_years_18 (by decide) rfl ?_ ?_
      · refine nx_aload_n rfl dX7_years_23 rfl ?_
        refine g_getr (Or.inl fl_7_61) dX7_years_24 rfl (fun q3 => ?_)
        refine nx_lload_n rfl dX7_years_27 rfl ?_
        refine g_callGv [.long a2] (fun r => r) cw_7_179 cv_X1_begin (fun r e => cR_begin X.2.1 e) rfl rfl (Nat.le_of_ble_eq_true rfl) (Nat.le_of_ble_eq_true rfl) dX7_years_28 rfl (fun D4 => ?_)
        refine nx_iconst dX7_years_31 rfl ?_
        refine nx_istore [some (.ref x), some (.int a1), some (.long a2), none, some (.int (iz 0))] dX7_years_32 rfl (Nat.le_of_ble_eq_true rfl) rfl rfl ?_
        refine nx_seq (C1 := fun e7 : nx_M => .inl (50, [some (.ref x), some (.int a1), some (.long a2), none, none], [], (ov M0 e7))) (nx_loop (C1 := fun s5 : Int32 × nx_M => .inl (34, [some (.ref x), some (.int a1), some (.long a2), none, some (.int s5.1)], [], (ov M0 s5.2))) (fun s5 => jC_years_34  u x a1 a2 X Z s5) ((iz 0), D4)) (fun e7 => ?_)
        refine nx_aload_n rfl dX7_years_50 rfl ?_
        refine g_getr (Or.inl fl_7_37) dX7_years_51 rfl (fun q8 => ?_)
        refine g_callWr [] (fun r => .int r) cw_7_185 cv_X6_clock (fun M1 c f r hw hc e => cW_clock X.2.1 hw hc e) rfl rfl (Nat.le_of_ble_eq_true rfl) (Nat.le_of_ble_eq_true rfl) dX7_years_54 rfl (fun x9 => ?_)
        exact nx_iret dX7_years_57 rfl rfl
      · refine nx_iconst dX7_years_21 rfl ?_
        exact nx_iret dX7_years_22 rfl rfl
theorem cC_years (l : Launch) {Γ : nx_G} {M0 : Nat → Option va_E} {u : Nat} {D : nx_M} {x : Nat} {a1 : Int32} {a2 : Int64} {r : Int32 × nx_M}  (h : fC_years u Γ D x a1 a2 = some r) : nx_Ct l Γ 8 yX7_years cX7_years 5 (some .int) [.ref x, .int a1, .long a2] (ov M0 D) (some (.int r.1), (ov M0 r.2)) :=
  nx_ct (out := fun r0 : Int32 × nx_M => (some (.int r0.1), (ov M0 r0.2))) [some (.ref x), some (.int a1), some (.long a2), none, none] pn_RX7 h (Nat.le_of_ble_eq_true rfl) rfl (fun X Z _ => jC_years  u D x a1 a2 X Z)
theorem dX7_status_0 : decode cX7_status 0 = .ok (.iload_n 1, 1) := by decide +kernel
theorem dX7_status_1 : decode cX7_status 1 = .ok (.iconst 4, 1) := by decide +kernel
theorem dX7_status_2 : decode cX7_status 2 = .ok (.invokestatic 114, 3) := by decide +kernel
theorem dX7_status_5 : decode cX7_status 5 = .ok (.ifCond .eq 12, 3) := by decide +kernel
theorem dX7_status_8 : decode cX7_status 8 = .ok (.aload_n 0, 1) := by decide +kernel
theorem dX7_status_9 : decode cX7_status 9 = .ok (.getfield 65, 3) := by decide +kernel
theorem dX7_status_12 : decode cX7_status 12 = .ok (.iload_n 1, 1) := by decide +kernel
theorem dX7_status_13 : decode cX7_status 13 = .ok (.iaload, 1) := by decide +kernel
theorem dX7_status_14 : decode cX7_status 14 = .ok (.goto 4, 3) := by decide +kernel
theorem dX7_status_17 : decode cX7_status 17 = .ok (.iconst (-1), 1) := by decide +kernel
theorem dX7_status_18 : decode cX7_status 18 = .ok (.ireturn, 1) := by decide +kernel
def fC_status (u : Nat) (Γ : nx_G) (D : nx_M) (x : Nat) (a1 : Int32) : Option (Int32) :=
  (fL_within u a1 (iz 4)).bind fun b1 =>
  if b1 = true then
    (gR D x 7 11).bind fun q2 =>
    (aI Γ D q2 a1).bind fun x3 =>
    some x3
  else
    some (iz (-1))
set_option maxRecDepth 4000 in
theorem jC_status {Γ : nx_G} {M0 : Nat → Option va_E} (u : Nat) (D : nx_M) (x : Nat) (a1 : Int32)   (X : nx_X) (Z : nx_Z) : nx_J Γ X (RX7, cX7_status, 2, (some .int), "status", 2) Z (fun r0 : Int32 => .inr (some (.int r0), (ov M0 D))) (.inl (0, [some (.ref x), some (.int a1)], [], (ov M0 D))) (fC_status u Γ D x a1) := by
  unfold fC_status
  refine nx_iload_n rfl dX7_status_0 rfl ?_
  refine nx_iconst dX7_status_1 rfl ?_
  refine nx_callSr [.int a1, .int (iz 4)] (fun r => .int (bz r)) (fun _ => (ov M0 D)) cw_7_114 wd_442 (fun r e => cL_within X.2.1  e) rfl rfl (Nat.le_of_ble_eq_true rfl) (Nat.le_of_ble_eq_true rfl) dX7_status_2 rfl (fun b1 => ?_)
  refine nx_ifz_eq (t := 17) dX7_status_5 (by decide) rfl ?_ ?_
  · refine nx_iconst dX7_status_17 rfl ?_
    exact nx_iret dX7_status_18 rfl rfl
  · refine nx_aload_n rfl dX7_status_8 rfl ?_
    refine g_getr (Or.inl fl_7_65) dX7_status_9 rfl (fun q2 => ?_)
    refine nx_iload_n rfl dX7_status_12 rfl ?_
    refine g_iald dX7_status_13 rfl (fun x3 => ?_)
    refine nx_goto (q := 18) dX7_status_14 (by decide) ?_
    exact nx_iret dX7_status_18 rfl rfl
theorem cC_status (l : Launch) {Γ : nx_G} {M0 : Nat → Option va_E} {u : Nat} {D : nx_M} {x : Nat} {a1 : Int32} {r : Int32}  (h : fC_status u Γ D x a1 = some r) : nx_Ct l Γ 2 yX7_status cX7_status 2 (some .int) [.ref x, .int a1] (ov M0 D) (some (.int r), (ov M0 D)) :=
  nx_ct (out := fun r0 : Int32 => (some (.int r0), (ov M0 D))) [some (.ref x), some (.int a1)] pn_RX7 h (Nat.le_of_ble_eq_true rfl) rfl (fun X Z _ => jC_status  u D x a1 X Z)
theorem dX7_undo_0 : decode cX7_undo 0 = .ok (.aload_n 0, 1) := by decide +kernel
theorem dX7_undo_1 : decode cX7_undo 1 = .ok (.getfield 44, 3) := by decide +kernel
theorem dX7_undo_4 : decode cX7_undo 4 = .ok (.aload_n 0, 1) := by decide +kernel
theorem dX7_undo_5 : decode cX7_undo 5 = .ok (.getfield 37, 3) := by decide +kernel
theorem dX7_undo_8 : decode cX7_undo 8 = .ok (.invokevirtual 194, 3) := by decide +kernel
theorem dX7_undo_11 : decode cX7_undo 11 = .ok (.ireturn, 1) := by decide +kernel
def fC_undo (u : Nat) (Γ : nx_G) (D : nx_M) (x : Nat) : Option (Int32 × nx_M) :=
  (gR D x 7 6).bind fun q1 =>
  (gR D x 7 5).bind fun q2 =>
  (gAt D q1 2 (fQ_bringBack u Γ D q1 q2)).bind fun p3 =>
  some (p3.1, p3.2)
set_option maxRecDepth 4000 in
theorem jC_undo {Γ : nx_G} {M0 : Nat → Option va_E} (u : Nat) (D : nx_M) (x : Nat)   (X : nx_X) (Z : nx_Z) : nx_J Γ X (RX7, cX7_undo, 1, (some .int), "undo", 3) Z (fun r0 : Int32 × nx_M => .inr (some (.int r0.1), (ov M0 r0.2))) (.inl (0, [some (.ref x)], [], (ov M0 D))) (fC_undo u Γ D x) := by
  unfold fC_undo
  refine nx_aload_n rfl dX7_undo_0 rfl ?_
  refine g_getr (Or.inl fl_7_44) dX7_undo_1 rfl (fun q1 => ?_)
  refine nx_aload_n rfl dX7_undo_4 rfl ?_
  refine g_getr (Or.inl fl_7_37) dX7_undo_5 rfl (fun q2 => ?_)
  refine g_callGr [.ref q2] (fun r => .int r.1) (fun r => r.2) cw_7_194 cv_X2_bringBack (fun r e => cQ_bringBack X.2.1 e) rfl rfl (Nat.le_of_ble_eq_true rfl) (Nat.le_of_ble_eq_true rfl) dX7_undo_8 rfl (fun p3 => ?_)
  exact nx_iret dX7_undo_11 rfl rfl
theorem cC_undo (l : Launch) {Γ : nx_G} {M0 : Nat → Option va_E} {u : Nat} {D : nx_M} {x : Nat} {r : Int32 × nx_M}  (h : fC_undo u Γ D x = some r) : nx_Ct l Γ 3 yX7_undo cX7_undo 1 (some .int) [.ref x] (ov M0 D) (some (.int r.1), (ov M0 r.2)) :=
  nx_ct (out := fun r0 : Int32 × nx_M => (some (.int r0.1), (ov M0 r0.2))) [some (.ref x)] pn_RX7 h (Nat.le_of_ble_eq_true rfl) rfl (fun X Z _ => jC_undo  u D x X Z)
theorem dX7_log_0 : decode cX7_log 0 = .ok (.iload_n 2, 1) := by decide +kernel
theorem dX7_log_1 : decode cX7_log 1 = .ok (.iconst 3, 1) := by decide +kernel
theorem dX7_log_2 : decode cX7_log 2 = .ok (.invokestatic 114, 3) := by decide +kernel
theorem dX7_log_5 : decode cX7_log 5 = .ok (.ifCond .eq 29, 3) := by decide +kernel
theorem dX7_log_8 : decode cX7_log 8 = .ok (.iload_n 1, 1) := by decide +kernel
theorem dX7_log_9 : decode cX7_log 9 = .ok (.aload_n 0, 1) := by decide +kernel
theorem dX7_log_10 : decode cX7_log 10 = .ok (.getfield 37, 3) := by decide +kernel
theorem dX7_log_13 : decode cX7_log 13 = .ok (.invokevirtual 198, 3) := by decide +kernel
theorem dX7_log_16 : decode cX7_log 16 = .ok (.invokestatic 114, 3) := by decide +kernel
theorem dX7_log_19 : decode cX7_log 19 = .ok (.ifCond .eq 15, 3) := by decide +kernel
theorem dX7_log_22 : decode cX7_log 22 = .ok (.aload_n 0, 1) := by decide +kernel
theorem dX7_log_23 : decode cX7_log 23 = .ok (.getfield 37, 3) := by decide +kernel
theorem dX7_log_26 : decode cX7_log 26 = .ok (.iload_n 1, 1) := by decide +kernel
theorem dX7_log_27 : decode cX7_log 27 = .ok (.iload_n 2, 1) := by decide +kernel
theorem dX7_log_28 : decode cX7_log 28 = .ok (.invokevirtual 201, 3) := by decide +kernel
theorem dX7_log_31 : decode cX7_log 31 = .ok (.goto 5, 3) := by decide +kernel
theorem dX7_log_34 : decode cX7_log 34 = .ok (.ldc 147, 2) := by decide +kernel
theorem dX7_log_36 : decode cX7_log 36 = .ok (.ireturn, 1) := by decide +kernel
def fC_log (u : Nat) (Γ : nx_G) (D : nx_M) (x : Nat) (a1 : Int32) (a2 : Int32) : Option (Int32) :=
  (fL_within u a2 (iz 3)).bind fun b1 =>
  if b1 = true then
    (gR D x 7 5).bind fun q2 =>
    (wRd Γ D q2 (fun f => fW_logLength u f)).bind fun x3 =>
    (fL_within u a1 x3).bind fun b4 =>
    if b4 = true then
      (gR D x 7 5).bind fun q5 =>
      (wRd Γ D q5 (fun f => fW_logPart u f a1 a2)).bind fun x6 =>
      some x6
    else
      some ((-1000000) : Int32)
  else
    some ((-1000000) : Int32)
set_option maxRecDepth 4000 in
theorem jC_log {Γ : nx_G} {M0 : Nat → Option va_E} (u : Nat) (D : nx_M) (x : Nat) (a1 : Int32) (a2 : Int32)   (X : nx_X) (Z : nx_Z) : nx_J Γ X (RX7, cX7_log, 3, (some .int), "log", 3) Z (fun r0 : Int32 => .inr (some (.int r0), (ov M0 D))) (.inl (0, [some (.ref x), some (.int a1), some (.int a2)], [], (ov M0 D))) (fC_log u Γ D x a1 a2) := by
  unfold fC_log
  refine nx_iload_n rfl dX7_log_0 rfl ?_
  refine nx_iconst dX7_log_1 rfl ?_
  refine nx_callSr [.int a2, .int (iz 3)] (fun r => .int (bz r)) (fun _ => (ov M0 D)) cw_7_114 wd_442 (fun r e => cL_within X.2.1  e) rfl rfl (Nat.le_of_ble_eq_true rfl) (Nat.le_of_ble_eq_true rfl) dX7_log_2 rfl (fun b1 => ?_)
  refine nx_ifz_eq (t := 34) dX7_log_5 (by decide) rfl ?_ ?_
  · refine nx_ldc wd_544 dX7_log_34 rfl ?_
    exact nx_iret dX7_log_36 rfl rfl
  · refine nx_iload_n rfl dX7_log_8 rfl ?_
    refine nx_aload_n rfl dX7_log_9 rfl ?_
    refine g_getr (Or.inl fl_7_37) dX7_log_10 rfl (fun q2 => ?_)
    refine g_callWr [] (fun r => .int r) cw_7_198 cv_X6_logLength (fun M1 c f r hw hc e => cW_logLength X.2.1 hw hc e) rfl rfl (Nat.le_of_ble_eq_true rfl) (Nat.le_of_ble_eq_true rfl) dX7_log_13 rfl (fun x3 => ?_)
    refine nx_callSr [.int a1, .int x3] (fun r => .int (bz r)) (fun _ => (ov M0 D)) cw_7_114 wd_442 (fun r e => cL_within X.2.1  e) rfl rfl (Nat.le_of_ble_eq_true rfl) (Nat.le_of_ble_eq_true rfl) dX7_log_16 rfl (fun b4 => ?_)
    refine nx_ifz_eq (t := 34) dX7_log_19 (by decide) rfl ?_ ?_
    · refine nx_ldc wd_544 dX7_log_34 rfl ?_
      exact nx_iret dX7_log_36 rfl rfl
    · refine nx_aload_n rfl dX7_log_22 rfl ?_
      refine g_getr (Or.inl fl_7_37) dX7_log_23 rfl (fun q5 => ?_)
      refine nx_iload_n rfl dX7_log_26 rfl ?_
      refine nx_iload_n rfl dX7_log_27 rfl ?_
      refine g_callWr [.int a1, .int a2] (fun r => .int r) cw_7_201 cv_X6_logPart (fun M1 c f r hw hc e => cW_logPart X.2.1 hw hc e) rfl rfl (Nat.le_of_ble_eq_true rfl) (Nat.le_of_ble_eq_true rfl) dX7_log_28 rfl (fun x6 => ?_)
      refine nx_goto (q := 36) dX7_log_31 (by decide) ?_
      exact nx_iret dX7_log_36 rfl rfl
theorem cC_log (l : Launch) {Γ : nx_G} {M0 : Nat → Option va_E} {u : Nat} {D : nx_M} {x : Nat} {a1 : Int32} {a2 : Int32} {r : Int32}  (h : fC_log u Γ D x a1 a2 = some r) : nx_Ct l Γ 3 yX7_log cX7_log 3 (some .int) [.ref x, .int a1, .int a2] (ov M0 D) (some (.int r), (ov M0 D)) :=
  nx_ct (out := fun r0 : Int32 => (some (.int r0), (ov M0 D))) [some (.ref x), some (.int a1), some (.int a2)] pn_RX7 h (Nat.le_of_ble_eq_true rfl) rfl (fun X Z _ => jC_log  u D x a1 a2 X Z)
theorem dX7_would_0 : decode cX7_would 0 = .ok (.iload_n 1, 1) := by decide +kernel
theorem dX7_would_1 : decode cX7_would 1 = .ok (.bipush 8, 2) := by decide +kernel
theorem dX7_would_3 : decode cX7_would 3 = .ok (.invokestatic 114, 3) := by decide +kernel
theorem dX7_would_6 : decode cX7_would 6 = .ok (.ifCond .eq 26, 3) := by decide +kernel
theorem dX7_would_9 : decode cX7_would 9 = .ok (.aload_n 0, 1) := by decide +kernel
theorem dX7_would_10 : decode cX7_would 10 = .ok (.getfield 37, 3) := by decide +kernel
theorem dX7_would_13 : decode cX7_would 13 = .ok (.iload_n 2, 1) := by decide +kernel
theorem dX7_would_14 : decode cX7_would 14 = .ok (.invokevirtual 137, 3) := by decide +kernel
theorem dX7_would_17 : decode cX7_would 17 = .ok (.ifCond .eq 15, 3) := by decide +kernel
theorem dX7_would_20 : decode cX7_would 20 = .ok (.aload_n 0, 1) := by decide +kernel
theorem dX7_would_21 : decode cX7_would 21 = .ok (.getfield 37, 3) := by decide +kernel
theorem dX7_would_24 : decode cX7_would 24 = .ok (.iload_n 1, 1) := by decide +kernel
theorem dX7_would_25 : decode cX7_would 25 = .ok (.invokevirtual 128, 3) := by decide +kernel
theorem dX7_would_28 : decode cX7_would 28 = .ok (.iconst 1, 1) := by decide +kernel
theorem dX7_would_29 : decode cX7_would 29 = .ok (.if_icmp .eq 5, 3) := by decide +kernel
theorem dX7_would_32 : decode cX7_would 32 = .ok (.iconst (-1), 1) := by decide +kernel
theorem dX7_would_33 : decode cX7_would 33 = .ok (.ireturn, 1) := by decide +kernel
theorem dX7_would_34 : decode cX7_would 34 = .ok (.iload_n 3, 1) := by decide +kernel
theorem dX7_would_35 : decode cX7_would 35 = .ok (.ifCond .ne 13, 3) := by decide +kernel
theorem dX7_would_38 : decode cX7_would 38 = .ok (.aload_n 0, 1) := by decide +kernel
theorem dX7_would_39 : decode cX7_would 39 = .ok (.getfield 37, 3) := by decide +kernel
theorem dX7_would_42 : decode cX7_would 42 = .ok (.iload_n 1, 1) := by decide +kernel
theorem dX7_would_43 : decode cX7_would 43 = .ok (.iload_n 2, 1) := by decide +kernel
theorem dX7_would_44 : decode cX7_would 44 = .ok (.invokevirtual 204, 3) := by decide +kernel
theorem dX7_would_47 : decode cX7_would 47 = .ok (.ireturn, 1) := by decide +kernel
theorem dX7_would_48 : decode cX7_would 48 = .ok (.iload_n 3, 1) := by decide +kernel
theorem dX7_would_49 : decode cX7_would 49 = .ok (.iconst 1, 1) := by decide +kernel
theorem dX7_would_50 : decode cX7_would 50 = .ok (.if_icmp .ne 28, 3) := by decide +kernel
theorem dX7_would_53 : decode cX7_would 53 = .ok (.aload_n 0, 1) := by decide +kernel
theorem dX7_would_54 : decode cX7_would 54 = .ok (.getfield 37, 3) := by decide +kernel
theorem dX7_would_57 : decode cX7_would 57 = .ok (.iload_n 2, 1) := by decide +kernel
theorem dX7_would_58 : decode cX7_would 58 = .ok (.aload_n 0, 1) := by decide +kernel
theorem dX7_would_59 : decode cX7_would 59 = .ok (.getfield 37, 3) := by decide +kernel
theorem dX7_would_62 : decode cX7_would 62 = .ok (.iload_n 1, 1) := by decide +kernel
theorem dX7_would_63 : decode cX7_would 63 = .ok (.invokevirtual 207, 3) := by decide +kernel
theorem dX7_would_66 : decode cX7_would 66 = .ok (.invokevirtual 210, 3) := by decide +kernel
theorem dX7_would_69 : decode cX7_would 69 = .ok (.ifCond .eq 7, 3) := by decide +kernel
theorem dX7_would_72 : decode cX7_would 72 = .ok (.iconst 1, 1) := by decide +kernel
theorem dX7_would_73 : decode cX7_would 73 = .ok (.goto 4, 3) := by decide +kernel
theorem dX7_would_76 : decode cX7_would 76 = .ok (.iconst 0, 1) := by decide +kernel
theorem dX7_would_77 : decode cX7_would 77 = .ok (.ireturn, 1) := by decide +kernel
theorem dX7_would_78 : decode cX7_would 78 = .ok (.iconst (-1), 1) := by decide +kernel
theorem dX7_would_79 : decode cX7_would 79 = .ok (.ireturn, 1) := by decide +kernel
def fC_would (u : Nat) (Γ : nx_G) (D : nx_M) (x : Nat) (a1 : Int32) (a2 : Int32) (a3 : Int32) : Option (Int32) :=
  (fL_within u a1 (iz 8)).bind fun b1 =>
  if b1 = true then
    (gR D x 7 5).bind fun q2 =>
    (wRd Γ D q2 (fun f => fW_hasKey u f a2)).bind fun b3 =>
    if b3 = true then
      (gR D x 7 5).bind fun q4 =>
      (wRd Γ D q4 (fun f => fW_stateOf u f a1)).bind fun x5 =>
      if x5 = (iz 1) then
        if a3 = iz 0 then
          (gR D x 7 5).bind fun q10 =>
          (wRd Γ D q10 (fun f => fW_markToRead u f a1 a2)).bind fun x11 =>
          some x11
        else
          if a3 = (iz 1) then
            (gR D x 7 5).bind fun q6 =>
            (gR D x 7 5).bind fun q7 =>
            (wRd Γ D q7 (fun f => fW_stampOf u f a1)).bind fun x8 =>
            (wRd Γ D q6 (fun f => fW_isLate u f a2 x8)).bind fun b9 =>
            if b9 = true then
              some (iz 1)
            else
              some (iz 0)
          else
            some (iz (-1))
      else
        some (iz (-1))
    else
      some (iz (-1))
  else
    some (iz (-1))
set_option maxRecDepth 4000 in
theorem jC_would {Γ : nx_G} {M0 : Nat → Option va_E} (u : Nat) (D : nx_M) (x : Nat) (a1 : Int32) (a2 : Int32) (a3 : Int32)   (X : nx_X) (Z : nx_Z) : nx_J Γ X (RX7, cX7_would, 4, (some .int), "would", 3) Z (fun r0 : Int32 => .inr (some (.int r0), (ov M0 D))) (.inl (0, [some (.ref x), some (.int a1), some (.int a2), some (.int a3)], [], (ov M0 D))) (fC_would u Γ D x a1 a2 a3) := by
  unfold fC_would
  refine nx_iload_n rfl dX7_would_0 rfl ?_
  refine nx_bipush (by decide +kernel) dX7_would_1 rfl ?_
  refine nx_callSr [.int a1, .int (iz 8)] (fun r => .int (bz r)) (fun _ => (ov M0 D)) cw_7_114 wd_442 (fun r e => cL_within X.2.1  e) rfl rfl (Nat.le_of_ble_eq_true rfl) (Nat.le_of_ble_eq_true rfl) dX7_would_3 rfl (fun b1 => ?_)
  refine nx_ifz_eq (t := 32) dX7_would_6 (by decide) rfl ?_ ?_
  · refine nx_iconst dX7_would_32 rfl ?_
    exact nx_iret dX7_would_33 rfl rfl
  · refine nx_aload_n rfl dX7_would_9 rfl ?_
    refine g_getr (Or.inl fl_7_37) dX7_would_10 rfl (fun q2 => ?_)
    refine nx_iload_n rfl dX7_would_13 rfl ?_
    refine g_callWr [.int a2] (fun r => .int (bz r)) cw_7_137 cv_X6_hasKey (fun M1 c f r hw hc e => cW_hasKey X.2.1 hw hc e) rfl rfl (Nat.le_of_ble_eq_true rfl) (Nat.le_of_ble_eq_true rfl) dX7_would_14 rfl (fun b3 => ?_)
    refine nx_ifz_eq (t := 32) dX7_would_17 (by decide) rfl ?_ ?_
    · refine nx_iconst dX7_would_32 rfl ?_
      exact nx_iret dX7_would_33 rfl rfl
    · refine nx_aload_n rfl dX7_would_20 rfl ?_
      refine g_getr (Or.inl fl_7_37) dX7_would_21 rfl (fun q4 => ?_)
      refine nx_iload_n rfl dX7_would_24 rfl ?_
      refine g_callWr [.int a1] (fun r => .int r) cw_7_128 cv_X6_stateOf (fun M1 c f r hw hc e => cW_stateOf X.2.1 hw hc e) rfl rfl (Nat.le_of_ble_eq_true rfl) (Nat.le_of_ble_eq_true rfl) dX7_would_25 rfl (fun x5 => ?_)
      refine nx_iconst dX7_would_28 rfl ?_
      refine nx_icmp_eq (t := 34) dX7_would_29 (by decide) rfl ?_ ?_
      · refine nx_iload_n rfl dX7_would_34 rfl ?_
        refine nx_if_ne (t := 48) dX7_would_35 (by decide) rfl ?_ ?_
        · refine nx_iload_n rfl dX7_would_48 rfl ?_
          refine nx_iconst dX7_would_49 rfl ?_
          refine nx_icmp_ne (t := 78) dX7_would_50 (by decide) rfl ?_ ?_
          · refine nx_iconst dX7_would_78 rfl ?_
            exact nx_iret dX7_would_79 rfl rfl
          · refine nx_aload_n rfl dX7_would_53 rfl ?_
            refine g_getr (Or.inl fl_7_37) dX7_would_54 rfl (fun q6 => ?_)
            refine nx_iload_n rfl dX7_would_57 rfl ?_
            refine nx_aload_n rfl dX7_would_58 rfl ?_
            refine g_getr (Or.inl fl_7_37) dX7_would_59 rfl (fun q7 => ?_)
            refine nx_iload_n rfl dX7_would_62 rfl ?_
            refine g_callWr [.int a1] (fun r => .int r) cw_7_207 cv_X6_stampOf (fun M1 c f r hw hc e => cW_stampOf X.2.1 hw hc e) rfl rfl (Nat.le_of_ble_eq_true rfl) (Nat.le_of_ble_eq_true rfl) dX7_would_63 rfl (fun x8 => ?_)
            refine g_callWr [.int a2, .int x8] (fun r => .int (bz r)) cw_7_210 cv_X6_isLate (fun M1 c f r hw hc e => cW_isLate X.2.1 hw hc e) rfl rfl (Nat.le_of_ble_eq_true rfl) (Nat.le_of_ble_eq_true rfl) dX7_would_66 rfl (fun b9 => ?_)
            refine nx_ifz_eq (t := 76) dX7_would_69 (by decide) rfl ?_ ?_
            · refine nx_iconst dX7_would_76 rfl ?_
              exact nx_iret dX7_would_77 rfl rfl
            · refine nx_iconst dX7_would_72 rfl ?_
              refine nx_goto (q := 77) dX7_would_73 (by decide) ?_
              exact nx_iret dX7_would_77 rfl rfl
        · refine nx_aload_n rfl dX7_would_38 rfl ?_
          refine g_getr (Or.inl fl_7_37) dX7_would_39 rfl (fun q10 => ?_)
          refine nx_iload_n rfl dX7_would_42 rfl ?_
          refine nx_iload_n rfl dX7_would_43 rfl ?_
          refine g_callWr [.int a1, .int a2] (fun r => .int r) cw_7_204 cv_X6_markToRead (fun M1 c f r hw hc e => cW_markToRead X.2.1 hw hc e) rfl rfl (Nat.le_of_ble_eq_true rfl) (Nat.le_of_ble_eq_true rfl) dX7_would_44 rfl (fun x11 => ?_)
          exact nx_iret dX7_would_47 rfl rfl
      · refine nx_iconst dX7_would_32 rfl ?_
        exact nx_iret dX7_would_33 rfl rfl
theorem cC_would (l : Launch) {Γ : nx_G} {M0 : Nat → Option va_E} {u : Nat} {D : nx_M} {x : Nat} {a1 : Int32} {a2 : Int32} {a3 : Int32} {r : Int32}  (h : fC_would u Γ D x a1 a2 a3 = some r) : nx_Ct l Γ 3 yX7_would cX7_would 4 (some .int) [.ref x, .int a1, .int a2, .int a3] (ov M0 D) (some (.int r), (ov M0 D)) :=
  nx_ct (out := fun r0 : Int32 => (some (.int r0), (ov M0 D))) [some (.ref x), some (.int a1), some (.int a2), some (.int a3)] pn_RX7 h (Nat.le_of_ble_eq_true rfl) rfl (fun X Z _ => jC_would  u D x a1 a2 a3 X Z)
theorem dX7_since_0 : decode cX7_since 0 = .ok (.aload_n 0, 1) := by decide +kernel
theorem dX7_since_1 : decode cX7_since 1 = .ok (.getfield 37, 3) := by decide +kernel
theorem dX7_since_4 : decode cX7_since 4 = .ok (.iload_n 1, 1) := by decide +kernel
theorem dX7_since_5 : decode cX7_since 5 = .ok (.invokevirtual 137, 3) := by decide +kernel
theorem dX7_since_8 : decode cX7_since 8 = .ok (.ifCond .eq 23, 3) := by decide +kernel
theorem dX7_since_11 : decode cX7_since 11 = .ok (.iload_n 2, 1) := by decide +kernel
theorem dX7_since_12 : decode cX7_since 12 = .ok (.iconst 2, 1) := by decide +kernel
theorem dX7_since_13 : decode cX7_since 13 = .ok (.invokestatic 114, 3) := by decide +kernel
theorem dX7_since_16 : decode cX7_since 16 = .ok (.ifCond .eq 15, 3) := by decide +kernel
theorem dX7_since_19 : decode cX7_since 19 = .ok (.aload_n 0, 1) := by decide +kernel
theorem dX7_since_20 : decode cX7_since 20 = .ok (.getfield 37, 3) := by decide +kernel
theorem dX7_since_23 : decode cX7_since 23 = .ok (.iload_n 1, 1) := by decide +kernel
theorem dX7_since_24 : decode cX7_since 24 = .ok (.iload_n 2, 1) := by decide +kernel
theorem dX7_since_25 : decode cX7_since 25 = .ok (.invokevirtual 213, 3) := by decide +kernel
theorem dX7_since_28 : decode cX7_since 28 = .ok (.goto 4, 3) := by decide +kernel
theorem dX7_since_31 : decode cX7_since 31 = .ok (.iconst (-1), 1) := by decide +kernel
theorem dX7_since_32 : decode cX7_since 32 = .ok (.ireturn, 1) := by decide +kernel
def fC_since (u : Nat) (Γ : nx_G) (D : nx_M) (x : Nat) (a1 : Int32) (a2 : Int32) : Option (Int32) :=
  (gR D x 7 5).bind fun q1 =>
  (wRd Γ D q1 (fun f => fW_hasKey u f a1)).bind fun b2 =>
  if b2 = true then
    (fL_within u a2 (iz 2)).bind fun b3 =>
    if b3 = true then
      (gR D x 7 5).bind fun q4 =>
      (wRd Γ D q4 (fun f => fW_timely u f a1 a2)).bind fun x5 =>
      some x5
    else
      some (iz (-1))
  else
    some (iz (-1))
set_option maxRecDepth 4000 in
theorem jC_since {Γ : nx_G} {M0 : Nat → Option va_E} (u : Nat) (D : nx_M) (x : Nat) (a1 : Int32) (a2 : Int32)   (X : nx_X) (Z : nx_Z) : nx_J Γ X (RX7, cX7_since, 3, (some .int), "since", 3) Z (fun r0 : Int32 => .inr (some (.int r0), (ov M0 D))) (.inl (0, [some (.ref x), some (.int a1), some (.int a2)], [], (ov M0 D))) (fC_since u Γ D x a1 a2) := by
  unfold fC_since
  refine nx_aload_n rfl dX7_since_0 rfl ?_
  refine g_getr (Or.inl fl_7_37) dX7_since_1 rfl (fun q1 => ?_)
  refine nx_iload_n rfl dX7_since_4 rfl ?_
  refine g_callWr [.int a1] (fun r => .int (bz r)) cw_7_137 cv_X6_hasKey (fun M1 c f r hw hc e => cW_hasKey X.2.1 hw hc e) rfl rfl (Nat.le_of_ble_eq_true rfl) (Nat.le_of_ble_eq_true rfl) dX7_since_5 rfl (fun b2 => ?_)
  refine nx_ifz_eq (t := 31) dX7_since_8 (by decide) rfl ?_ ?_
  · refine nx_iconst dX7_since_31 rfl ?_
    exact nx_iret dX7_since_32 rfl rfl
  · refine nx_iload_n rfl dX7_since_11 rfl ?_
    refine nx_iconst dX7_since_12 rfl ?_
    refine nx_callSr [.int a2, .int (iz 2)] (fun r => .int (bz r)) (fun _ => (ov M0 D)) cw_7_114 wd_442 (fun r e => cL_within X.2.1  e) rfl rfl (Nat.le_of_ble_eq_true rfl) (Nat.le_of_ble_eq_true rfl) dX7_since_13 rfl (fun b3 => ?_)
    refine nx_ifz_eq (t := 31) dX7_since_16 (by decide) rfl ?_ ?_
    · refine nx_iconst dX7_since_31 rfl ?_
      exact nx_iret dX7_since_32 rfl rfl
    · refine nx_aload_n rfl dX7_since_19 rfl ?_
      refine g_getr (Or.inl fl_7_37) dX7_since_20 rfl (fun q4 => ?_)
      refine nx_iload_n rfl dX7_since_23 rfl ?_
      refine nx_iload_n rfl dX7_since_24 rfl ?_
      refine g_callWr [.int a1, .int a2] (fun r => .int r) cw_7_213 cv_X6_timely (fun M1 c f r hw hc e => cW_timely X.2.1 hw hc e) rfl rfl (Nat.le_of_ble_eq_true rfl) (Nat.le_of_ble_eq_true rfl) dX7_since_25 rfl (fun x5 => ?_)
      refine nx_goto (q := 32) dX7_since_28 (by decide) ?_
      exact nx_iret dX7_since_32 rfl rfl
theorem cC_since (l : Launch) {Γ : nx_G} {M0 : Nat → Option va_E} {u : Nat} {D : nx_M} {x : Nat} {a1 : Int32} {a2 : Int32} {r : Int32}  (h : fC_since u Γ D x a1 a2 = some r) : nx_Ct l Γ 3 yX7_since cX7_since 3 (some .int) [.ref x, .int a1, .int a2] (ov M0 D) (some (.int r), (ov M0 D)) :=
  nx_ct (out := fun r0 : Int32 => (some (.int r0), (ov M0 D))) [some (.ref x), some (.int a1), some (.int a2)] pn_RX7 h (Nat.le_of_ble_eq_true rfl) rfl (fun X Z _ => jC_since  u D x a1 a2 X Z)
theorem dX7_falls_0 : decode cX7_falls 0 = .ok (.iload_n 1, 1) := by decide +kernel
theorem dX7_falls_1 : decode cX7_falls 1 = .ok (.bipush 8, 2) := by decide +kernel
theorem dX7_falls_3 : decode cX7_falls 3 = .ok (.invokestatic 114, 3) := by decide +kernel
theorem dX7_falls_6 : decode cX7_falls 6 = .ok (.ifCond .eq 25, 3) := by decide +kernel
theorem dX7_falls_9 : decode cX7_falls 9 = .ok (.aload_n 0, 1) := by decide +kernel
theorem dX7_falls_10 : decode cX7_falls 10 = .ok (.getfield 37, 3) := by decide +kernel
theorem dX7_falls_13 : decode cX7_falls 13 = .ok (.iload_n 1, 1) := by decide +kernel
theorem dX7_falls_14 : decode cX7_falls 14 = .ok (.invokevirtual 216, 3) := by decide +kernel
theorem dX7_falls_17 : decode cX7_falls 17 = .ok (.ifCond .eq 14, 3) := by decide +kernel
theorem dX7_falls_20 : decode cX7_falls 20 = .ok (.aload_n 0, 1) := by decide +kernel
theorem dX7_falls_21 : decode cX7_falls 21 = .ok (.getfield 37, 3) := by decide +kernel
theorem dX7_falls_24 : decode cX7_falls 24 = .ok (.iload_n 1, 1) := by decide +kernel
theorem dX7_falls_25 : decode cX7_falls 25 = .ok (.invokevirtual 219, 3) := by decide +kernel
theorem dX7_falls_28 : decode cX7_falls 28 = .ok (.goto 4, 3) := by decide +kernel
theorem dX7_falls_31 : decode cX7_falls 31 = .ok (.iconst (-1), 1) := by decide +kernel
theorem dX7_falls_32 : decode cX7_falls 32 = .ok (.ireturn, 1) := by decide +kernel
def fC_falls (u : Nat) (Γ : nx_G) (D : nx_M) (x : Nat) (a1 : Int32) : Option (Int32) :=
  (fL_within u a1 (iz 8)).bind fun b1 =>
  if b1 = true then
    (gR D x 7 5).bind fun q2 =>
    (wRd Γ D q2 (fun f => fW_isLive u f a1)).bind fun b3 =>
    if b3 = true then
      (gR D x 7 5).bind fun q4 =>
      (wRd Γ D q4 (fun f => fW_fallingWith u f a1)).bind fun x5 =>
      some x5
    else
      some (iz (-1))
  else
    some (iz (-1))
set_option maxRecDepth 4000 in
theorem jC_falls {Γ : nx_G} {M0 : Nat → Option va_E} (u : Nat) (D : nx_M) (x : Nat) (a1 : Int32)   (X : nx_X) (Z : nx_Z) : nx_J Γ X (RX7, cX7_falls, 2, (some .int), "falls", 2) Z (fun r0 : Int32 => .inr (some (.int r0), (ov M0 D))) (.inl (0, [some (.ref x), some (.int a1)], [], (ov M0 D))) (fC_falls u Γ D x a1) := by
  unfold fC_falls
  refine nx_iload_n rfl dX7_falls_0 rfl ?_
  refine nx_bipush (by decide +kernel) dX7_falls_1 rfl ?_
  refine nx_callSr [.int a1, .int (iz 8)] (fun r => .int (bz r)) (fun _ => (ov M0 D)) cw_7_114 wd_442 (fun r e => cL_within X.2.1  e) rfl rfl (Nat.le_of_ble_eq_true rfl) (Nat.le_of_ble_eq_true rfl) dX7_falls_3 rfl (fun b1 => ?_)
  refine nx_ifz_eq (t := 31) dX7_falls_6 (by decide) rfl ?_ ?_
  · refine nx_iconst dX7_falls_31 rfl ?_
    exact nx_iret dX7_falls_32 rfl rfl
  · refine nx_aload_n rfl dX7_falls_9 rfl ?_
    refine g_getr (Or.inl fl_7_37) dX7_falls_10 rfl (fun q2 => ?_)
    refine nx_iload_n rfl dX7_falls_13 rfl ?_
    refine g_callWr [.int a1] (fun r => .int (bz r)) cw_7_216 cv_X6_isLive (fun M1 c f r hw hc e => cW_isLive X.2.1 hw hc e) rfl rfl (Nat.le_of_ble_eq_true rfl) (Nat.le_of_ble_eq_true rfl) dX7_falls_14 rfl (fun b3 => ?_)
    refine nx_ifz_eq (t := 31) dX7_falls_17 (by decide) rfl ?_ ?_
    · refine nx_iconst dX7_falls_31 rfl ?_
      exact nx_iret dX7_falls_32 rfl rfl
    · refine nx_aload_n rfl dX7_falls_20 rfl ?_
      refine g_getr (Or.inl fl_7_37) dX7_falls_21 rfl (fun q4 => ?_)
      refine nx_iload_n rfl dX7_falls_24 rfl ?_
      refine g_callWr [.int a1] (fun r => .int r) cw_7_219 cv_X6_fallingWith (fun M1 c f r hw hc e => cW_fallingWith X.2.1 hw hc e) rfl rfl (Nat.le_of_ble_eq_true rfl) (Nat.le_of_ble_eq_true rfl) dX7_falls_25 rfl (fun x5 => ?_)
      refine nx_goto (q := 32) dX7_falls_28 (by decide) ?_
      exact nx_iret dX7_falls_32 rfl rfl
theorem cC_falls (l : Launch) {Γ : nx_G} {M0 : Nat → Option va_E} {u : Nat} {D : nx_M} {x : Nat} {a1 : Int32} {r : Int32}  (h : fC_falls u Γ D x a1 = some r) : nx_Ct l Γ 2 yX7_falls cX7_falls 2 (some .int) [.ref x, .int a1] (ov M0 D) (some (.int r), (ov M0 D)) :=
  nx_ct (out := fun r0 : Int32 => (some (.int r0), (ov M0 D))) [some (.ref x), some (.int a1)] pn_RX7 h (Nat.le_of_ble_eq_true rfl) rfl (fun X Z _ => jC_falls  u D x a1 X Z)
theorem dX7_sures_0 : decode cX7_sures 0 = .ok (.iload_n 1, 1) := by decide +kernel
theorem dX7_sures_1 : decode cX7_sures 1 = .ok (.bipush 8, 2) := by decide +kernel
theorem dX7_sures_3 : decode cX7_sures 3 = .ok (.invokestatic 114, 3) := by decide +kernel
theorem dX7_sures_6 : decode cX7_sures 6 = .ok (.ifCond .eq 30, 3) := by decide +kernel
theorem dX7_sures_9 : decode cX7_sures 9 = .ok (.aload_n 0, 1) := by decide +kernel
theorem dX7_sures_10 : decode cX7_sures 10 = .ok (.getfield 37, 3) := by decide +kernel
theorem dX7_sures_13 : decode cX7_sures 13 = .ok (.iload_n 1, 1) := by decide +kernel
theorem dX7_sures_14 : decode cX7_sures 14 = .ok (.invokevirtual 128, 3) := by decide +kernel
theorem dX7_sures_17 : decode cX7_sures 17 = .ok (.iconst 1, 1) := by decide +kernel
theorem dX7_sures_18 : decode cX7_sures 18 = .ok (.if_icmp .ne 18, 3) := by decide +kernel
theorem dX7_sures_21 : decode cX7_sures 21 = .ok (.aload_n 0, 1) := by decide +kernel
theorem dX7_sures_22 : decode cX7_sures 22 = .ok (.getfield 54, 3) := by decide +kernel
theorem dX7_sures_25 : decode cX7_sures 25 = .ok (.aload_n 0, 1) := by decide +kernel
theorem dX7_sures_26 : decode cX7_sures 26 = .ok (.getfield 37, 3) := by decide +kernel
theorem dX7_sures_29 : decode cX7_sures 29 = .ok (.iload_n 1, 1) := by decide +kernel
theorem dX7_sures_30 : decode cX7_sures 30 = .ok (.invokevirtual 222, 3) := by decide +kernel
theorem dX7_sures_33 : decode cX7_sures 33 = .ok (.goto 4, 3) := by decide +kernel
theorem dX7_sures_36 : decode cX7_sures 36 = .ok (.iconst (-1), 1) := by decide +kernel
theorem dX7_sures_37 : decode cX7_sures 37 = .ok (.ireturn, 1) := by decide +kernel
def fC_sures (u : Nat) (Γ : nx_G) (D : nx_M) (x : Nat) (a1 : Int32) : Option (Int32 × nx_M) :=
  (fL_within u a1 (iz 8)).bind fun b1 =>
  if b1 = true then
    (gR D x 7 5).bind fun q2 =>
    (wRd Γ D q2 (fun f => fW_stateOf u f a1)).bind fun x3 =>
    if x3 = (iz 1) then
      (gR D x 7 9).bind fun q4 =>
      (gR D x 7 5).bind fun q5 =>
      (gAt D q4 0 (fA_sureBy u Γ D q4 q5 a1)).bind fun p6 =>
      some (p6.1, p6.2)
    else
      some ((iz (-1)), D)
  else
    some ((iz (-1)), D)
set_option maxRecDepth 4000 in
theorem jC_sures {Γ : nx_G} {M0 : Nat → Option va_E} (u : Nat) (D : nx_M) (x : Nat) (a1 : Int32)   (X : nx_X) (Z : nx_Z) : nx_J Γ X (RX7, cX7_sures, 2, (some .int), "sures", 6) Z (fun r0 : Int32 × nx_M => .inr (some (.int r0.1), (ov M0 r0.2))) (.inl (0, [some (.ref x), some (.int a1)], [], (ov M0 D))) (fC_sures u Γ D x a1) := by
  unfold fC_sures
  refine nx_iload_n rfl dX7_sures_0 rfl ?_
  refine nx_bipush (by decide +kernel) dX7_sures_1 rfl ?_
  refine nx_callSr [.int a1, .int (iz 8)] (fun r => .int (bz r)) (fun _ => (ov M0 D)) cw_7_114 wd_442 (fun r e => cL_within X.2.1  e) rfl rfl (Nat.le_of_ble_eq_true rfl) (Nat.le_of_ble_eq_true rfl) dX7_sures_3 rfl (fun b1 => ?_)
  refine nx_ifz_eq (t := 36) dX7_sures_6 (by decide) rfl ?_ ?_
  · refine nx_iconst dX7_sures_36 rfl ?_
    exact nx_iret dX7_sures_37 rfl rfl
  · refine nx_aload_n rfl dX7_sures_9 rfl ?_
    refine g_getr (Or.inl fl_7_37) dX7_sures_10 rfl (fun q2 => ?_)
    refine nx_iload_n rfl dX7_sures_13 rfl ?_
    refine g_callWr [.int a1] (fun r => .int r) cw_7_128 cv_X6_stateOf (fun M1 c f r hw hc e => cW_stateOf X.2.1 hw hc e) rfl rfl (Nat.le_of_ble_eq_true rfl) (Nat.le_of_ble_eq_true rfl) dX7_sures_14 rfl (fun x3 => ?_)
    refine nx_iconst dX7_sures_17 rfl ?_
    refine nx_icmp_ne (t := 36) dX7_sures_18 (by decide) rfl ?_ ?_
    · refine nx_iconst dX7_sures_36 rfl ?_
      exact nx_iret dX7_sures_37 rfl rfl
    · refine nx_aload_n rfl dX7_sures_21 rfl ?_
      refine g_getr (Or.inl fl_7_54) dX7_sures_22 rfl (fun q4 => ?_)
      refine nx_aload_n rfl dX7_sures_25 rfl ?_
      refine g_getr (Or.inl fl_7_37) dX7_sures_26 rfl (fun q5 => ?_)
      refine nx_iload_n rfl dX7_sures_29 rfl ?_
      refine g_callGr [.ref q5, .int a1] (fun r => .int r.1) (fun r => r.2) cw_7_222 cv_X0_sureBy (fun r e => cA_sureBy X.2.1 e) rfl rfl (Nat.le_of_ble_eq_true rfl) (Nat.le_of_ble_eq_true rfl) dX7_sures_30 rfl (fun p6 => ?_)
      refine nx_goto (q := 37) dX7_sures_33 (by decide) ?_
      exact nx_iret dX7_sures_37 rfl rfl
theorem cC_sures (l : Launch) {Γ : nx_G} {M0 : Nat → Option va_E} {u : Nat} {D : nx_M} {x : Nat} {a1 : Int32} {r : Int32 × nx_M}  (h : fC_sures u Γ D x a1 = some r) : nx_Ct l Γ 6 yX7_sures cX7_sures 2 (some .int) [.ref x, .int a1] (ov M0 D) (some (.int r.1), (ov M0 r.2)) :=
  nx_ct (out := fun r0 : Int32 × nx_M => (some (.int r0.1), (ov M0 r0.2))) [some (.ref x), some (.int a1)] pn_RX7 h (Nat.le_of_ble_eq_true rfl) rfl (fun X Z _ => jC_sures  u D x a1 X Z)
theorem dX7_retries_0 : decode cX7_retries 0 = .ok (.iload_n 1, 1) := by decide +kernel
theorem dX7_retries_1 : decode cX7_retries 1 = .ok (.bipush 8, 2) := by decide +kernel
theorem dX7_retries_3 : decode cX7_retries 3 = .ok (.invokestatic 114, 3) := by decide +kernel
theorem dX7_retries_6 : decode cX7_retries 6 = .ok (.ifCond .eq 30, 3) := by decide +kernel
theorem dX7_retries_9 : decode cX7_retries 9 = .ok (.aload_n 0, 1) := by decide +kernel
theorem dX7_retries_10 : decode cX7_retries 10 = .ok (.getfield 37, 3) := by decide +kernel
theorem dX7_retries_13 : decode cX7_retries 13 = .ok (.iload_n 1, 1) := by decide +kernel
theorem dX7_retries_14 : decode cX7_retries 14 = .ok (.invokevirtual 128, 3) := by decide +kernel
theorem dX7_retries_17 : decode cX7_retries 17 = .ok (.iconst 4, 1) := by decide +kernel
theorem dX7_retries_18 : decode cX7_retries 18 = .ok (.if_icmp .ne 18, 3) := by decide +kernel
theorem dX7_retries_21 : decode cX7_retries 21 = .ok (.aload_n 0, 1) := by decide +kernel
theorem dX7_retries_22 : decode cX7_retries 22 = .ok (.getfield 54, 3) := by decide +kernel
theorem dX7_retries_25 : decode cX7_retries 25 = .ok (.aload_n 0, 1) := by decide +kernel
theorem dX7_retries_26 : decode cX7_retries 26 = .ok (.getfield 37, 3) := by decide +kernel
theorem dX7_retries_29 : decode cX7_retries 29 = .ok (.iload_n 1, 1) := by decide +kernel
theorem dX7_retries_30 : decode cX7_retries 30 = .ok (.invokevirtual 226, 3) := by decide +kernel
theorem dX7_retries_33 : decode cX7_retries 33 = .ok (.goto 4, 3) := by decide +kernel
theorem dX7_retries_36 : decode cX7_retries 36 = .ok (.iconst (-1), 1) := by decide +kernel
theorem dX7_retries_37 : decode cX7_retries 37 = .ok (.ireturn, 1) := by decide +kernel
def fC_retries (u : Nat) (Γ : nx_G) (D : nx_M) (x : Nat) (a1 : Int32) : Option (Int32 × nx_M) :=
  (fL_within u a1 (iz 8)).bind fun b1 =>
  if b1 = true then
    (gR D x 7 5).bind fun q2 =>
    (wRd Γ D q2 (fun f => fW_stateOf u f a1)).bind fun x3 =>
    if x3 = (iz 4) then
      (gR D x 7 9).bind fun q4 =>
      (gR D x 7 5).bind fun q5 =>
      (gAt D q4 0 (fA_retriesOf u Γ D q4 q5 a1)).bind fun p6 =>
      some (p6.1, p6.2)
    else
      some ((iz (-1)), D)
  else
    some ((iz (-1)), D)
set_option maxRecDepth 4000 in
theorem jC_retries {Γ : nx_G} {M0 : Nat → Option va_E} (u : Nat) (D : nx_M) (x : Nat) (a1 : Int32)   (X : nx_X) (Z : nx_Z) : nx_J Γ X (RX7, cX7_retries, 2, (some .int), "retries", 8) Z (fun r0 : Int32 × nx_M => .inr (some (.int r0.1), (ov M0 r0.2))) (.inl (0, [some (.ref x), some (.int a1)], [], (ov M0 D))) (fC_retries u Γ D x a1) := by
  unfold fC_retries
  refine nx_iload_n rfl dX7_retries_0 rfl ?_
  refine nx_bipush (by decide +kernel) dX7_retries_1 rfl ?_
  refine nx_callSr [.int a1, .int (iz 8)] (fun r => .int (bz r)) (fun _ => (ov M0 D)) cw_7_114 wd_442 (fun r e => cL_within X.2.1  e) rfl rfl (Nat.le_of_ble_eq_true rfl) (Nat.le_of_ble_eq_true rfl) dX7_retries_3 rfl (fun b1 => ?_)
  refine nx_ifz_eq (t := 36) dX7_retries_6 (by decide) rfl ?_ ?_
  · refine nx_iconst dX7_retries_36 rfl ?_
    exact nx_iret dX7_retries_37 rfl rfl
  · refine nx_aload_n rfl dX7_retries_9 rfl ?_
    refine g_getr (Or.inl fl_7_37) dX7_retries_10 rfl (fun q2 => ?_)
    refine nx_iload_n rfl dX7_retries_13 rfl ?_
    refine g_callWr [.int a1] (fun r => .int r) cw_7_128 cv_X6_stateOf (fun M1 c f r hw hc e => cW_stateOf X.2.1 hw hc e) rfl rfl (Nat.le_of_ble_eq_true rfl) (Nat.le_of_ble_eq_true rfl) dX7_retries_14 rfl (fun x3 => ?_)
    refine nx_iconst dX7_retries_17 rfl ?_
    refine nx_icmp_ne (t := 36) dX7_retries_18 (by decide) rfl ?_ ?_
    · refine nx_iconst dX7_retries_36 rfl ?_
      exact nx_iret dX7_retries_37 rfl rfl
    · refine nx_aload_n rfl dX7_retries_21 rfl ?_
      refine g_getr (Or.inl fl_7_54) dX7_retries_22 rfl (fun q4 => ?_)
      refine nx_aload_n rfl dX7_retries_25 rfl ?_
      refine g_getr (Or.inl fl_7_37) dX7_retries_26 rfl (fun q5 => ?_)
      refine nx_iload_n rfl dX7_retries_29 rfl ?_
      refine g_callGr [.ref q5, .int a1] (fun r => .int r.1) (fun r => r.2) cw_7_226 cv_X0_retriesOf (fun r e => cA_retriesOf X.2.1 e) rfl rfl (Nat.le_of_ble_eq_true rfl) (Nat.le_of_ble_eq_true rfl) dX7_retries_30 rfl (fun p6 => ?_)
      refine nx_goto (q := 37) dX7_retries_33 (by decide) ?_
      exact nx_iret dX7_retries_37 rfl rfl
theorem cC_retries (l : Launch) {Γ : nx_G} {M0 : Nat → Option va_E} {u : Nat} {D : nx_M} {x : Nat} {a1 : Int32} {r : Int32 × nx_M}  (h : fC_retries u Γ D x a1 = some r) : nx_Ct l Γ 8 yX7_retries cX7_retries 2 (some .int) [.ref x, .int a1] (ov M0 D) (some (.int r.1), (ov M0 r.2)) :=
  nx_ct (out := fun r0 : Int32 × nx_M => (some (.int r0.1), (ov M0 r0.2))) [some (.ref x), some (.int a1)] pn_RX7 h (Nat.le_of_ble_eq_true rfl) rfl (fun X Z _ => jC_retries  u D x a1 X Z)
theorem dX7_asOf_0 : decode cX7_asOf 0 = .ok (.aload_n 0, 1) := by decide +kernel
theorem dX7_asOf_1 : decode cX7_asOf 1 = .ok (.getfield 37, 3) := by decide +kernel
theorem dX7_asOf_4 : decode cX7_asOf 4 = .ok (.iload_n 1, 1) := by decide +kernel
theorem dX7_asOf_5 : decode cX7_asOf 5 = .ok (.invokevirtual 137, 3) := by decide +kernel
theorem dX7_asOf_8 : decode cX7_asOf 8 = .ok (.ifCond .eq 26, 3) := by decide +kernel
theorem dX7_asOf_11 : decode cX7_asOf 11 = .ok (.iload_n 2, 1) := by decide +kernel
theorem dX7_asOf_12 : decode cX7_asOf 12 = .ok (.aload_n 0, 1) := by decide +kernel
theorem dX7_asOf_13 : decode cX7_asOf 13 = .ok (.getfield 37, 3) := by decide +kernel
theorem dX7_asOf_16 : decode cX7_asOf 16 = .ok (.invokevirtual 229, 3) := by decide +kernel
theorem dX7_asOf_19 : decode cX7_asOf 19 = .ok (.if_icmp .lt 15, 3) := by decide +kernel
theorem dX7_asOf_22 : decode cX7_asOf 22 = .ok (.aload_n 0, 1) := by decide +kernel
theorem dX7_asOf_23 : decode cX7_asOf 23 = .ok (.getfield 37, 3) := by decide +kernel
theorem dX7_asOf_26 : decode cX7_asOf 26 = .ok (.iload_n 1, 1) := by decide +kernel
theorem dX7_asOf_27 : decode cX7_asOf 27 = .ok (.iload_n 2, 1) := by decide +kernel
theorem dX7_asOf_28 : decode cX7_asOf 28 = .ok (.invokevirtual 232, 3) := by decide +kernel
theorem dX7_asOf_31 : decode cX7_asOf 31 = .ok (.goto 4, 3) := by decide +kernel
theorem dX7_asOf_34 : decode cX7_asOf 34 = .ok (.iconst (-1), 1) := by decide +kernel
theorem dX7_asOf_35 : decode cX7_asOf 35 = .ok (.ireturn, 1) := by decide +kernel
def fC_asOf (u : Nat) (Γ : nx_G) (D : nx_M) (x : Nat) (a1 : Int32) (a2 : Int32) : Option (Int32) :=
  (gR D x 7 5).bind fun q1 =>
  (wRd Γ D q1 (fun f => fW_hasKey u f a1)).bind fun b2 =>
  if b2 = true then
    (gR D x 7 5).bind fun q3 =>
    (wRd Γ D q3 (fun f => fW_floor u f)).bind fun x4 =>
    if a2 < x4 then
      some (iz (-1))
    else
      (gR D x 7 5).bind fun q5 =>
      (wRd Γ D q5 (fun f => fW_sureValueAt u f a1 a2)).bind fun x6 =>
      some x6
  else
    some (iz (-1))
set_option maxRecDepth 4000 in
theorem jC_asOf {Γ : nx_G} {M0 : Nat → Option va_E} (u : Nat) (D : nx_M) (x : Nat) (a1 : Int32) (a2 : Int32)   (X : nx_X) (Z : nx_Z) : nx_J Γ X (RX7, cX7_asOf, 3, (some .int), "asOf", 3) Z (fun r0 : Int32 => .inr (some (.int r0), (ov M0 D))) (.inl (0, [some (.ref x), some (.int a1), some (.int a2)], [], (ov M0 D))) (fC_asOf u Γ D x a1 a2) := by
  unfold fC_asOf
  refine nx_aload_n rfl dX7_asOf_0 rfl ?_
  refine g_getr (Or.inl fl_7_37) dX7_asOf_1 rfl (fun q1 => ?_)
  refine nx_iload_n rfl dX7_asOf_4 rfl ?_
  refine g_callWr [.int a1] (fun r => .int (bz r)) cw_7_137 cv_X6_hasKey (fun M1 c f r hw hc e => cW_hasKey X.2.1 hw hc e) rfl rfl (Nat.le_of_ble_eq_true rfl) (Nat.le_of_ble_eq_true rfl) dX7_asOf_5 rfl (fun b2 => ?_)
  refine nx_ifz_eq (t := 34) dX7_asOf_8 (by decide) rfl ?_ ?_
  · refine nx_iconst dX7_asOf_34 rfl ?_
    exact nx_iret dX7_asOf_35 rfl rfl
  · refine nx_iload_n rfl dX7_asOf_11 rfl ?_
    refine nx_aload_n rfl dX7_asOf_12 rfl ?_
    refine g_getr (Or.inl fl_7_37) dX7_asOf_13 rfl (fun q3 => ?_)
    refine g_callWr [] (fun r => .int r) cw_7_229 cv_X6_floor (fun M1 c f r hw hc e => cW_floor X.2.1 hw hc e) rfl rfl (Nat.le_of_ble_eq_true rfl) (Nat.le_of_ble_eq_true rfl) dX7_asOf_16 rfl (fun x4 => ?_)
    refine nx_icmp_lt (t := 34) dX7_asOf_19 (by decide) rfl ?_ ?_
    · refine nx_iconst dX7_asOf_34 rfl ?_
      exact nx_iret dX7_asOf_35 rfl rfl
    · refine nx_aload_n rfl dX7_asOf_22 rfl ?_
      refine g_getr (Or.inl fl_7_37) dX7_asOf_23 rfl (fun q5 => ?_)
      refine nx_iload_n rfl dX7_asOf_26 rfl ?_
      refine nx_iload_n rfl dX7_asOf_27 rfl ?_
      refine g_callWr [.int a1, .int a2] (fun r => .int r) cw_7_232 cv_X6_sureValueAt (fun M1 c f r hw hc e => cW_sureValueAt X.2.1 hw hc e) rfl rfl (Nat.le_of_ble_eq_true rfl) (Nat.le_of_ble_eq_true rfl) dX7_asOf_28 rfl (fun x6 => ?_)
      refine nx_goto (q := 35) dX7_asOf_31 (by decide) ?_
      exact nx_iret dX7_asOf_35 rfl rfl
theorem cC_asOf (l : Launch) {Γ : nx_G} {M0 : Nat → Option va_E} {u : Nat} {D : nx_M} {x : Nat} {a1 : Int32} {a2 : Int32} {r : Int32}  (h : fC_asOf u Γ D x a1 a2 = some r) : nx_Ct l Γ 3 yX7_asOf cX7_asOf 3 (some .int) [.ref x, .int a1, .int a2] (ov M0 D) (some (.int r), (ov M0 D)) :=
  nx_ct (out := fun r0 : Int32 => (some (.int r0), (ov M0 D))) [some (.ref x), some (.int a1), some (.int a2)] pn_RX7 h (Nat.le_of_ble_eq_true rfl) rfl (fun X Z _ => jC_asOf  u D x a1 a2 X Z)
theorem dX7_scriptAt_0 : decode cX7_scriptAt 0 = .ok (.iload_n 1, 1) := by decide +kernel
theorem dX7_scriptAt_1 : decode cX7_scriptAt 1 = .ok (.aload_n 0, 1) := by decide +kernel
theorem dX7_scriptAt_2 : decode cX7_scriptAt 2 = .ok (.getfield 107, 3) := by decide +kernel
theorem dX7_scriptAt_5 : decode cX7_scriptAt 5 = .ok (.invokestatic 114, 3) := by decide +kernel
theorem dX7_scriptAt_8 : decode cX7_scriptAt 8 = .ok (.ifCond .eq 17, 3) := by decide +kernel
theorem dX7_scriptAt_11 : decode cX7_scriptAt 11 = .ok (.iload_n 1, 1) := by decide +kernel
theorem dX7_scriptAt_12 : decode cX7_scriptAt 12 = .ok (.iconst 4, 1) := by decide +kernel
theorem dX7_scriptAt_13 : decode cX7_scriptAt 13 = .ok (.if_icmp .ge 12, 3) := by decide +kernel
theorem dX7_scriptAt_16 : decode cX7_scriptAt 16 = .ok (.aload_n 0, 1) := by decide +kernel
theorem dX7_scriptAt_17 : decode cX7_scriptAt 17 = .ok (.getfield 25, 3) := by decide +kernel
theorem dX7_scriptAt_20 : decode cX7_scriptAt 20 = .ok (.iload_n 1, 1) := by decide +kernel
theorem dX7_scriptAt_21 : decode cX7_scriptAt 21 = .ok (.aaload, 1) := by decide +kernel
theorem dX7_scriptAt_22 : decode cX7_scriptAt 22 = .ok (.goto 4, 3) := by decide +kernel
theorem dX7_scriptAt_25 : decode cX7_scriptAt 25 = .ok (.aconst_null, 1) := by decide +kernel
theorem dX7_scriptAt_26 : decode cX7_scriptAt 26 = .ok (.areturn, 1) := by decide +kernel
def fC_scriptAt (u : Nat) (Γ : nx_G) (D : nx_M) (x : Nat) (a1 : Int32) : Option (Option Nat) :=
  (gI D x 7 4).bind fun x1 =>
  (fL_within u a1 x1).bind fun b2 =>
  if b2 = true then
    if (iz 4) ≤ a1 then
      some none
    else
      (gR D x 7 2).bind fun q3 =>
      (qA Γ 3 D q3 a1).bind fun r4 =>
      some r4
  else
    some none
set_option maxRecDepth 4000 in
theorem jC_scriptAt {Γ : nx_G} {M0 : Nat → Option va_E} (u : Nat) (D : nx_M) (x : Nat) (a1 : Int32)   (X : nx_X) (Z : nx_Z) : nx_J Γ X (RX7, cX7_scriptAt, 2, (some (.object "LateStamps$Script")), "scriptAt", 2) Z (fun r0 : Option Nat => .inr (some (va_rf r0), (ov M0 D))) (.inl (0, [some (.ref x), some (.int a1)], [], (ov M0 D))) (fC_scriptAt u Γ D x a1) := by
  unfold fC_scriptAt
  refine nx_iload_n rfl dX7_scriptAt_0 rfl ?_
  refine nx_aload_n rfl dX7_scriptAt_1 rfl ?_
  refine g_geti (Or.inl fl_7_107) dX7_scriptAt_2 rfl (fun x1 => ?_)
  refine nx_callSr [.int a1, .int x1] (fun r => .int (bz r)) (fun _ => (ov M0 D)) cw_7_114 wd_442 (fun r e => cL_within X.2.1  e) rfl rfl (Nat.le_of_ble_eq_true rfl) (Nat.le_of_ble_eq_true rfl) dX7_scriptAt_5 rfl (fun b2 => ?_)
  refine nx_ifz_eq (t := 25) dX7_scriptAt_8 (by decide) rfl ?_ ?_
  · refine nx_anull dX7_scriptAt_25 rfl ?_
    exact nx_aret (r := none) dX7_scriptAt_26 rfl rfl
  · refine nx_iload_n rfl dX7_scriptAt_11 rfl ?_
    refine nx_iconst dX7_scriptAt_12 rfl ?_
    refine nx_icmp_ge (t := 25) dX7_scriptAt_13 (by decide) rfl ?_ ?_
    · refine nx_anull dX7_scriptAt_25 rfl ?_
      exact nx_aret (r := none) dX7_scriptAt_26 rfl rfl
    · refine nx_aload_n rfl dX7_scriptAt_16 rfl ?_
      refine g_getr (Or.inl fl_7_25) dX7_scriptAt_17 rfl (fun q3 => ?_)
      refine nx_iload_n rfl dX7_scriptAt_20 rfl ?_
      refine g_aald (t := 3) rfl dX7_scriptAt_21 rfl (fun r4 => ?_)
      refine nx_goto (q := 26) dX7_scriptAt_22 (by decide) ?_
      exact nx_aret (r := r4) dX7_scriptAt_26 rfl rfl
theorem cC_scriptAt (l : Launch) {Γ : nx_G} {M0 : Nat → Option va_E} {u : Nat} {D : nx_M} {x : Nat} {a1 : Int32} {r : Option Nat}  (h : fC_scriptAt u Γ D x a1 = some r) : nx_Ct l Γ 2 yX7_scriptAt cX7_scriptAt 2 (some (.object "LateStamps$Script")) [.ref x, .int a1] (ov M0 D) (some (va_rf r), (ov M0 D)) :=
  nx_ct (out := fun r0 : Option Nat => (some (va_rf r0), (ov M0 D))) [some (.ref x), some (.int a1)] pn_RX7 h (Nat.le_of_ble_eq_true rfl) rfl (fun X Z _ => jC_scriptAt  u D x a1 X Z)
theorem dX7_step_0 : decode cX7_step 0 = .ok (.aload_n 0, 1) := by decide +kernel
theorem dX7_step_1 : decode cX7_step 1 = .ok (.iload_n 1, 1) := by decide +kernel
theorem dX7_step_2 : decode cX7_step 2 = .ok (.invokevirtual 235, 3) := by decide +kernel
theorem dX7_step_5 : decode cX7_step 5 = .ok (.astore 4, 2) := by decide +kernel
theorem dX7_step_7 : decode cX7_step 7 = .ok (.aload 4, 2) := by decide +kernel
theorem dX7_step_9 : decode cX7_step 9 = .ok (.ifnull 23, 3) := by decide +kernel
theorem dX7_step_12 : decode cX7_step 12 = .ok (.iload_n 3, 1) := by decide +kernel
theorem dX7_step_13 : decode cX7_step 13 = .ok (.iconst 4, 1) := by decide +kernel
theorem dX7_step_14 : decode cX7_step 14 = .ok (.invokestatic 114, 3) := by decide +kernel
theorem dX7_step_17 : decode cX7_step 17 = .ok (.ifCond .eq 15, 3) := by decide +kernel
theorem dX7_step_20 : decode cX7_step 20 = .ok (.iload_n 2, 1) := by decide +kernel
theorem dX7_step_21 : decode cX7_step 21 = .ok (.aload 4, 2) := by decide +kernel
theorem dX7_step_23 : decode cX7_step 23 = .ok (.getfield 239, 3) := by decide +kernel
theorem dX7_step_26 : decode cX7_step 26 = .ok (.invokestatic 114, 3) := by decide +kernel
theorem dX7_step_29 : decode cX7_step 29 = .ok (.ifCond .ne 6, 3) := by decide +kernel
theorem dX7_step_32 : decode cX7_step 32 = .ok (.ldc 147, 2) := by decide +kernel
theorem dX7_step_34 : decode cX7_step 34 = .ok (.ireturn, 1) := by decide +kernel
theorem dX7_step_35 : decode cX7_step 35 = .ok (.aload 4, 2) := by decide +kernel
theorem dX7_step_37 : decode cX7_step 37 = .ok (.iload_n 2, 1) := by decide +kernel
theorem dX7_step_38 : decode cX7_step 38 = .ok (.iload_n 3, 1) := by decide +kernel
theorem dX7_step_39 : decode cX7_step 39 = .ok (.invokevirtual 240, 3) := by decide +kernel
theorem dX7_step_42 : decode cX7_step 42 = .ok (.ireturn, 1) := by decide +kernel
def fC_step (u : Nat) (Γ : nx_G) (D : nx_M) (x : Nat) (a1 : Int32) (a2 : Int32) (a3 : Int32) : Option (Int32) :=
  (gAt D x 7 (fC_scriptAt u Γ D x a1)).bind fun x1 =>
  if x1 = none then
    some ((-1000000) : Int32)
  else
    (fL_within u a3 (iz 4)).bind fun b2 =>
    if b2 = true then
      (x1).bind fun q3 =>
      (gI D q3 3 1).bind fun x4 =>
      (fL_within u a2 x4).bind fun b5 =>
      if b5 = true then
        (sRd Γ D q3 (fun f => fS_part u f a2 a3)).bind fun x6 =>
        some x6
      else
        some ((-1000000) : Int32)
    else
      some ((-1000000) : Int32)
set_option maxRecDepth 4000 in
theorem jC_step {Γ : nx_G} {M0 : Nat → Option va_E} (u : Nat) (D : nx_M) (x : Nat) (a1 : Int32) (a2 : Int32) (a3 : Int32)   (X : nx_X) (Z : nx_Z) : nx_J Γ X (RX7, cX7_step, 5, (some .int), "step", 3) Z (fun r0 : Int32 => .inr (some (.int r0), (ov M0 D))) (.inl (0, [some (.ref x), some (.int a1), some (.int a2), some (.int a3), none], [], (ov M0 D))) (fC_step u Γ D x a1 a2 a3) := by
  unfold fC_step
  refine nx_aload_n rfl dX7_step_0 rfl ?_
  refine nx_iload_n rfl dX7_step_1 rfl ?_
  refine g_callGr [.int a1] (fun r => va_rf r) (fun _ => D) cw_7_235 cv_X7_scriptAt (fun r e => cC_scriptAt X.2.1 e) rfl rfl (Nat.le_of_ble_eq_true rfl) (Nat.le_of_ble_eq_true rfl) dX7_step_2 rfl (fun x1 => ?_)
  refine nx_qstore [some (.ref x), some (.int a1), some (.int a2), some (.int a3), some (va_rf x1)] dX7_step_5 rfl (Nat.le_of_ble_eq_true rfl) rfl rfl ?_
  refine nx_qload rfl dX7_step_7 rfl ?_
  refine nx_ifnull (t := 32) dX7_step_9 (by decide) rfl ?_ ?_
  · refine nx_ldc wd_544 dX7_step_32 rfl ?_
    exact nx_iret dX7_step_34 rfl rfl
  · refine nx_iload_n rfl dX7_step_12 rfl ?_
    refine nx_iconst dX7_step_13 rfl ?_
    refine nx_callSr [.int a3, .int (iz 4)] (fun r => .int (bz r)) (fun _ => (ov M0 D)) cw_7_114 wd_442 (fun r e => cL_within X.2.1  e) rfl rfl (Nat.le_of_ble_eq_true rfl) (Nat.le_of_ble_eq_true rfl) dX7_step_14 rfl (fun b2 => ?_)
    refine nx_ifz_eq (t := 32) dX7_step_17 (by decide) rfl ?_ ?_
    · refine nx_ldc wd_544 dX7_step_32 rfl ?_
      exact nx_iret dX7_step_34 rfl rfl
    · refine nx_iload_n rfl dX7_step_20 rfl ?_
      refine nx_qload rfl dX7_step_21 rfl ?_
      refine nx_guard (fun q3 hq3 => ?_)
      rw [hq3]
      refine g_geti (Or.inr fl_7_239) dX7_step_23 rfl (fun x4 => ?_)
      refine nx_callSr [.int a2, .int x4] (fun r => .int (bz r)) (fun _ => (ov M0 D)) cw_7_114 wd_442 (fun r e => cL_within X.2.1  e) rfl rfl (Nat.le_of_ble_eq_true rfl) (Nat.le_of_ble_eq_true rfl) dX7_step_26 rfl (fun b5 => ?_)
      refine nx_ifz_ne (t := 35) dX7_step_29 (by decide) rfl ?_ ?_
      · refine nx_aload rfl dX7_step_35 rfl ?_
        refine nx_iload_n rfl dX7_step_37 rfl ?_
        refine nx_iload_n rfl dX7_step_38 rfl ?_
        refine g_callS [.int a2, .int a3] (fun r => .int r) cw_7_240 cv_X3_part (fun M1 c ln f r hw hc e => cS_part X.2.1 hw hc e) rfl rfl (Nat.le_of_ble_eq_true rfl) (Nat.le_of_ble_eq_true rfl) dX7_step_39 rfl (fun x6 => ?_)
        exact nx_iret dX7_step_42 rfl rfl
      · refine nx_ldc wd_544 dX7_step_32 rfl ?_
        exact nx_iret dX7_step_34 rfl rfl
theorem cC_step (l : Launch) {Γ : nx_G} {M0 : Nat → Option va_E} {u : Nat} {D : nx_M} {x : Nat} {a1 : Int32} {a2 : Int32} {a3 : Int32} {r : Int32}  (h : fC_step u Γ D x a1 a2 a3 = some r) : nx_Ct l Γ 3 yX7_step cX7_step 5 (some .int) [.ref x, .int a1, .int a2, .int a3] (ov M0 D) (some (.int r), (ov M0 D)) :=
  nx_ct (out := fun r0 : Int32 => (some (.int r0), (ov M0 D))) [some (.ref x), some (.int a1), some (.int a2), some (.int a3), none] pn_RX7 h (Nat.le_of_ble_eq_true rfl) rfl (fun X Z _ => jC_step  u D x a1 a2 a3 X Z)
theorem dX7_run_0 : decode cX7_run 0 = .ok (.aload_n 0, 1) := by decide +kernel
theorem dX7_run_1 : decode cX7_run 1 = .ok (.iload_n 1, 1) := by decide +kernel
theorem dX7_run_2 : decode cX7_run 2 = .ok (.invokevirtual 235, 3) := by decide +kernel
theorem dX7_run_5 : decode cX7_run 5 = .ok (.astore_n 3, 1) := by decide +kernel
theorem dX7_run_6 : decode cX7_run 6 = .ok (.aload_n 3, 1) := by decide +kernel
theorem dX7_run_7 : decode cX7_run 7 = .ok (.ifnull 21, 3) := by decide +kernel
theorem dX7_run_10 : decode cX7_run 10 = .ok (.aload_n 0, 1) := by decide +kernel
theorem dX7_run_11 : decode cX7_run 11 = .ok (.getfield 37, 3) := by decide +kernel
theorem dX7_run_14 : decode cX7_run 14 = .ok (.invokevirtual 110, 3) := by decide +kernel
theorem dX7_run_17 : decode cX7_run 17 = .ok (.ifCond .eq 11, 3) := by decide +kernel
theorem dX7_run_20 : decode cX7_run 20 = .ok (.iload_n 2, 1) := by decide +kernel
theorem dX7_run_21 : decode cX7_run 21 = .ok (.iconst 2, 1) := by decide +kernel
theorem dX7_run_22 : decode cX7_run 22 = .ok (.invokestatic 114, 3) := by decide +kernel
theorem dX7_run_25 : decode cX7_run 25 = .ok (.ifCond .ne 6, 3) := by decide +kernel
theorem dX7_run_28 : decode cX7_run 28 = .ok (.ldc 147, 2) := by decide +kernel
theorem dX7_run_30 : decode cX7_run 30 = .ok (.ireturn, 1) := by decide +kernel
theorem dX7_run_31 : decode cX7_run 31 = .ok (.aload_n 0, 1) := by decide +kernel
theorem dX7_run_32 : decode cX7_run 32 = .ok (.getfield 54, 3) := by decide +kernel
theorem dX7_run_35 : decode cX7_run 35 = .ok (.aload_n 0, 1) := by decide +kernel
theorem dX7_run_36 : decode cX7_run 36 = .ok (.getfield 37, 3) := by decide +kernel
theorem dX7_run_39 : decode cX7_run 39 = .ok (.aload_n 3, 1) := by decide +kernel
theorem dX7_run_40 : decode cX7_run 40 = .ok (.invokevirtual 243, 3) := by decide +kernel
theorem dX7_run_43 : decode cX7_run 43 = .ok (.istore 4, 2) := by decide +kernel
theorem dX7_run_45 : decode cX7_run 45 = .ok (.iload_n 2, 1) := by decide +kernel
theorem dX7_run_46 : decode cX7_run 46 = .ok (.iconst 1, 1) := by decide +kernel
theorem dX7_run_47 : decode cX7_run 47 = .ok (.if_icmp .ne 14, 3) := by decide +kernel
theorem dX7_run_50 : decode cX7_run 50 = .ok (.aload_n 0, 1) := by decide +kernel
theorem dX7_run_51 : decode cX7_run 51 = .ok (.getfield 54, 3) := by decide +kernel
theorem dX7_run_54 : decode cX7_run 54 = .ok (.invokevirtual 247, 3) := by decide +kernel
theorem dX7_run_57 : decode cX7_run 57 = .ok (.invokestatic 250, 3) := by decide +kernel
theorem dX7_run_60 : decode cX7_run 60 = .ok (.ireturn, 1) := by decide +kernel
theorem dX7_run_61 : decode cX7_run 61 = .ok (.iload 4, 2) := by decide +kernel
theorem dX7_run_63 : decode cX7_run 63 = .ok (.aload_n 3, 1) := by decide +kernel
theorem dX7_run_64 : decode cX7_run 64 = .ok (.getfield 239, 3) := by decide +kernel
theorem dX7_run_67 : decode cX7_run 67 = .ok (.if_icmp .ne 7, 3) := by decide +kernel
theorem dX7_run_70 : decode cX7_run 70 = .ok (.iconst (-1), 1) := by decide +kernel
theorem dX7_run_71 : decode cX7_run 71 = .ok (.goto 5, 3) := by decide +kernel
theorem dX7_run_74 : decode cX7_run 74 = .ok (.iload 4, 2) := by decide +kernel
theorem dX7_run_76 : decode cX7_run 76 = .ok (.ireturn, 1) := by decide +kernel
def fC_run (u : Nat) (Γ : nx_G) (D : nx_M) (x : Nat) (a1 : Int32) (a2 : Int32) : Option (Int32 × nx_M) :=
  (gAt D x 7 (fC_scriptAt u Γ D x a1)).bind fun x1 =>
  if x1 = none then
    some (((-1000000) : Int32), D)
  else
    (gR D x 7 5).bind fun q2 =>
    (wRd Γ D q2 (fun f => fW_hasStore u f)).bind fun b3 =>
    if b3 = true then
      (fL_within u a2 (iz 2)).bind fun b4 =>
      if b4 = true then
        (gR D x 7 9).bind fun q5 =>
        (gR D x 7 5).bind fun q6 =>
        (x1).bind fun q7 =>
        (gAt D q5 0 (fA_stepsDone u Γ D q5 q6 q7)).bind fun p8 =>
        if a2 = (iz 1) then
          (gR p8.2 x 7 9).bind fun q10 =>
          (gAt p8.2 q10 0 (fA_sureBehind u Γ p8.2 q10)).bind fun p11 =>
          (fJ_bitCount_0f7a4 u p11.1).bind fun x12 =>
          some (x12, p11.2)
        else
          (gI p8.2 q7 3 1).bind fun x9 =>
          if p8.1 = x9 then
            some ((iz (-1)), p8.2)
          else
            some (p8.1, p8.2)
      else
        some (((-1000000) : Int32), D)
    else
      some (((-1000000) : Int32), D)
set_option maxRecDepth 4000 in
theorem jC_run {Γ : nx_G} {M0 : Nat → Option va_E} (u : Nat) (D : nx_M) (x : Nat) (a1 : Int32) (a2 : Int32)   (X : nx_X) (Z : nx_Z) : nx_J Γ X (RX7, cX7_run, 5, (some .int), "run", 8) Z (fun r0 : Int32 × nx_M => .inr (some (.int r0.1), (ov M0 r0.2))) (.inl (0, [some (.ref x), some (.int a1), some (.int a2), none, none], [], (ov M0 D))) (fC_run u Γ D x a1 a2) := by
  unfold fC_run
  refine nx_aload_n rfl dX7_run_0 rfl ?_
  refine nx_iload_n rfl dX7_run_1 rfl ?_
  refine g_callGr [.int a1] (fun r => va_rf r) (fun _ => D) cw_7_235 cv_X7_scriptAt (fun r e => cC_scriptAt X.2.1 e) rfl rfl (Nat.le_of_ble_eq_true rfl) (Nat.le_of_ble_eq_true rfl) dX7_run_2 rfl (fun x1 => ?_)
  refine nx_qstore_n [some (.ref x), some (.int a1), some (.int a2), some (va_rf x1), none] dX7_run_5 rfl (Nat.le_of_ble_eq_true rfl) rfl rfl ?_
  refine nx_qload_n rfl dX7_run_6 rfl ?_
  refine nx_ifnull (t := 28) dX7_run_7 (by decide) rfl ?_ ?_
  · refine nx_ldc wd_544 dX7_run_28 rfl ?_
    exact nx_iret dX7_run_30 rfl rfl
  · refine nx_aload_n rfl dX7_run_10 rfl ?_
    refine g_getr (Or.inl fl_7_37) dX7_run_11 rfl (fun q2 => ?_)
    refine g_callWr [] (fun r => .int (bz r)) cw_7_110 cv_X6_hasStore (fun M1 c f r hw hc e => cW_hasStore X.2.1 hw hc e) rfl rfl (Nat.le_of_ble_eq_true rfl) (Nat.le_of_ble_eq_true rfl) dX7_run_14 rfl (fun b3 => ?_)
    refine nx_ifz_eq (t := 28) dX7_run_17 (by decide) rfl ?_ ?_
    · refine nx_ldc wd_544 dX7_run_28 rfl ?_
      exact nx_iret dX7_run_30 rfl rfl
    · refine nx_iload_n rfl dX7_run_20 rfl ?_
      refine nx_iconst dX7_run_21 rfl ?_
      refine nx_callSr [.int a2, .int (iz 2)] (fun r => .int (bz r)) (fun _ => (ov M0 D)) cw_7_114 wd_442 (fun r e => cL_within X.2.1  e) rfl rfl (Nat.le_of_ble_eq_true rfl) (Nat.le_of_ble_eq_true rfl) dX7_run_22 rfl (fun b4 => ?_)
      refine nx_ifz_ne (t := 31) dX7_run_25 (by decide) rfl ?_ ?_
      · refine nx_aload_n rfl dX7_run_31 rfl ?_
        refine g_getr (Or.inl fl_7_54) dX7_run_32 rfl (fun q5 => ?_)
        refine nx_aload_n rfl dX7_run_35 rfl ?_
        refine g_getr (Or.inl fl_7_37) dX7_run_36 rfl (fun q6 => ?_)
        refine nx_qload_n rfl dX7_run_39 rfl ?_
        refine nx_guard (fun q7 hq7 => ?_)
        rw [hq7]
        refine g_callGr [.ref q6, .ref q7] (fun r => .int r.1) (fun r => r.2) cw_7_243 cv_X0_stepsDone (fun r e => cA_stepsDone X.2.1 e) rfl rfl (Nat.le_of_ble_eq_true rfl) (Nat.le_of_ble_eq_true rfl) dX7_run_40 rfl (fun p8 => ?_)
        refine nx_istore [some (.ref x), some (.int a1), some (.int a2), some (.ref q7), some (.int p8.1)] dX7_run_43 rfl (Nat.le_of_ble_eq_true rfl) rfl rfl ?_
        refine nx_iload_n rfl dX7_run_45 rfl ?_
        refine nx_iconst dX7_run_46 rfl ?_
        refine nx_icmp_ne (t := 61) dX7_run_47 (by decide) rfl ?_ ?_
        · refine nx_iload rfl dX7_run_61 rfl ?_
          refine nx_aload_n rfl dX7_run_63 rfl ?_
          refine g_geti (Or.inr fl_7_239) dX7_run_64 rfl (fun x9 => ?_)
          refine nx_icmp_ne (t := 74) dX7_run_67 (by decide) rfl ?_ ?_
          · refine nx_iload rfl dX7_run_74 rfl ?_
            exact nx_iret dX7_run_76 rfl rfl
          · refine nx_iconst dX7_run_70 rfl ?_
            refine nx_goto (q := 76) dX7_run_71 (by decide) ?_
            exact nx_iret dX7_run_76 rfl rfl
        · refine nx_aload_n rfl dX7_run_50 rfl ?_
          refine g_getr (Or.inl fl_7_54) dX7_run_51 rfl (fun q10 => ?_)
          refine g_callGr [] (fun r => .int r.1) (fun r => r.2) cw_7_247 cv_X0_sureBehind (fun r e => cA_sureBehind X.2.1 e) rfl rfl (Nat.le_of_ble_eq_true rfl) (Nat.le_of_ble_eq_true rfl) dX7_run_54 rfl (fun p11 => ?_)
          refine nx_callSr [.int p11.1] (fun r => .int r) (fun _ => (ov M0 p11.2)) cw_7_250 wd_724 (fun r e => cJ_bitCount_0f7a4 X.2.1  e) rfl rfl (Nat.le_of_ble_eq_true rfl) (Nat.le_of_ble_eq_true rfl) dX7_run_57 rfl (fun x12 => ?_)
          exact nx_iret dX7_run_60 rfl rfl
      · refine nx_ldc wd_544 dX7_run_28 rfl ?_
        exact nx_iret dX7_run_30 rfl rfl
theorem cC_run (l : Launch) {Γ : nx_G} {M0 : Nat → Option va_E} {u : Nat} {D : nx_M} {x : Nat} {a1 : Int32} {a2 : Int32} {r : Int32 × nx_M}  (h : fC_run u Γ D x a1 a2 = some r) : nx_Ct l Γ 8 yX7_run cX7_run 5 (some .int) [.ref x, .int a1, .int a2] (ov M0 D) (some (.int r.1), (ov M0 r.2)) :=
  nx_ct (out := fun r0 : Int32 × nx_M => (some (.int r0.1), (ov M0 r0.2))) [some (.ref x), some (.int a1), some (.int a2), none, none] pn_RX7 h (Nat.le_of_ble_eq_true rfl) rfl (fun X Z _ => jC_run  u D x a1 a2 X Z)
theorem dX7_perform_0 : decode cX7_perform 0 = .ok (.aload_n 0, 1) := by decide +kernel
theorem dX7_perform_1 : decode cX7_perform 1 = .ok (.iload_n 1, 1) := by decide +kernel
theorem dX7_perform_2 : decode cX7_perform 2 = .ok (.invokevirtual 235, 3) := by decide +kernel
theorem dX7_perform_5 : decode cX7_perform 5 = .ok (.astore_n 2, 1) := by decide +kernel
theorem dX7_perform_6 : decode cX7_perform 6 = .ok (.aload_n 2, 1) := by decide +kernel
theorem dX7_perform_7 : decode cX7_perform 7 = .ok (.ifnull 13, 3) := by decide +kernel
theorem dX7_perform_10 : decode cX7_perform 10 = .ok (.aload_n 0, 1) := by decide +kernel
theorem dX7_perform_11 : decode cX7_perform 11 = .ok (.getfield 37, 3) := by decide +kernel
theorem dX7_perform_14 : decode cX7_perform 14 = .ok (.invokevirtual 110, 3) := by decide +kernel
theorem dX7_perform_17 : decode cX7_perform 17 = .ok (.ifCond .ne 5, 3) := by decide +kernel
theorem dX7_perform_20 : decode cX7_perform 20 = .ok (.iconst (-1), 1) := by decide +kernel
theorem dX7_perform_21 : decode cX7_perform 21 = .ok (.ireturn, 1) := by decide +kernel
theorem dX7_perform_22 : decode cX7_perform 22 = .ok (.iconst 0, 1) := by decide +kernel
theorem dX7_perform_23 : decode cX7_perform 23 = .ok (.istore_n 3, 1) := by decide +kernel
theorem dX7_perform_24 : decode cX7_perform 24 = .ok (.iconst 0, 1) := by decide +kernel
theorem dX7_perform_25 : decode cX7_perform 25 = .ok (.istore 4, 2) := by decide +kernel
theorem dX7_perform_27 : decode cX7_perform 27 = .ok (.iload 4, 2) := by decide +kernel
theorem dX7_perform_29 : decode cX7_perform 29 = .ok (.aload_n 2, 1) := by decide +kernel
theorem dX7_perform_30 : decode cX7_perform 30 = .ok (.getfield 239, 3) := by decide +kernel
theorem dX7_perform_33 : decode cX7_perform 33 = .ok (.if_icmp .ge 50, 3) := by decide +kernel
theorem dX7_perform_36 : decode cX7_perform 36 = .ok (.aload_n 0, 1) := by decide +kernel
theorem dX7_perform_37 : decode cX7_perform 37 = .ok (.aload_n 2, 1) := by decide +kernel
theorem dX7_perform_38 : decode cX7_perform 38 = .ok (.iload 4, 2) := by decide +kernel
theorem dX7_perform_40 : decode cX7_perform 40 = .ok (.iconst 0, 1) := by decide +kernel
theorem dX7_perform_41 : decode cX7_perform 41 = .ok (.invokevirtual 240, 3) := by decide +kernel
theorem dX7_perform_44 : decode cX7_perform 44 = .ok (.aload_n 2, 1) := by decide +kernel
theorem dX7_perform_45 : decode cX7_perform 45 = .ok (.iload 4, 2) := by decide +kernel
theorem dX7_perform_47 : decode cX7_perform 47 = .ok (.iconst 1, 1) := by decide +kernel
theorem dX7_perform_48 : decode cX7_perform 48 = .ok (.invokevirtual 240, 3) := by decide +kernel
theorem dX7_perform_51 : decode cX7_perform 51 = .ok (.aload_n 2, 1) := by decide +kernel
theorem dX7_perform_52 : decode cX7_perform 52 = .ok (.iload 4, 2) := by decide +kernel
theorem dX7_perform_54 : decode cX7_perform 54 = .ok (.iconst 2, 1) := by decide +kernel
theorem dX7_perform_55 : decode cX7_perform 55 = .ok (.invokevirtual 240, 3) := by decide +kernel
theorem dX7_perform_58 : decode cX7_perform 58 = .ok (.aload_n 2, 1) := by decide +kernel
theorem dX7_perform_59 : decode cX7_perform 59 = .ok (.iload 4, 2) := by decide +kernel
theorem dX7_perform_61 : decode cX7_perform 61 = .ok (.iconst 3, 1) := by decide +kernel
theorem dX7_perform_62 : decode cX7_perform 62 = .ok (.invokevirtual 240, 3) := by decide +kernel
theorem dX7_perform_65 : decode cX7_perform 65 = .ok (.invokevirtual 191, 3) := by decide +kernel
theorem dX7_perform_68 : decode cX7_perform 68 = .ok (.ifCond .ne 6, 3) := by decide +kernel
theorem dX7_perform_71 : decode cX7_perform 71 = .ok (.goto 12, 3) := by decide +kernel
theorem dX7_perform_74 : decode cX7_perform 74 = .ok (.iinc 3 1, 3) := by decide +kernel
theorem dX7_perform_77 : decode cX7_perform 77 = .ok (.iinc 4 1, 3) := by decide +kernel
theorem dX7_perform_80 : decode cX7_perform 80 = .ok (.goto (-53), 3) := by decide +kernel
theorem dX7_perform_83 : decode cX7_perform 83 = .ok (.iload_n 3, 1) := by decide +kernel
theorem dX7_perform_84 : decode cX7_perform 84 = .ok (.ireturn, 1) := by decide +kernel
def fC_perform_27 (u : Nat) (Γ : nx_G) (x : Nat) (x1 : Option Nat) (s4 : Int32 × Int32 × nx_M) : Option ((Int32 × Int32 × nx_M) ⊕ (Int32 × nx_M)) :=
  (x1).bind fun q5 =>
  (gI s4.2.2 q5 3 1).bind fun x6 =>
  if x6 ≤ s4.2.1 then
    some (.inr (s4.1, s4.2.2))
  else
    (sRd Γ s4.2.2 q5 (fun f => fS_part u f s4.2.1 (iz 0))).bind fun x7 =>
    (sRd Γ s4.2.2 q5 (fun f => fS_part u f s4.2.1 (iz 1))).bind fun x8 =>
    (sRd Γ s4.2.2 q5 (fun f => fS_part u f s4.2.1 (iz 2))).bind fun x9 =>
    (sRd Γ s4.2.2 q5 (fun f => fS_part u f s4.2.1 (iz 3))).bind fun x10 =>
    (gAt s4.2.2 x 7 (fC_triedQuietly u Γ s4.2.2 x x7 x8 x9 x10)).bind fun p11 =>
    if p11.1 = true then
      some (.inl ((s4.1 + iz 1), (s4.2.1 + iz 1), p11.2))
    else
      some (.inr (s4.1, p11.2))
def fC_perform (u : Nat) (Γ : nx_G) (D : nx_M) (x : Nat) (a1 : Int32) : Option (Int32 × nx_M) :=
  (gAt D x 7 (fC_scriptAt u Γ D x a1)).bind fun x1 =>
  if x1 = none then
    some ((iz (-1)), D)
  else
    (gR D x 7 5).bind fun q2 =>
    (wRd Γ D q2 (fun f => fW_hasStore u f)).bind fun b3 =>
    if b3 = true then
      (nx_iter u (fC_perform_27 u Γ x x1) ((iz 0), (iz 0), D)).bind fun e12 =>
      some (e12.1, e12.2)
    else
      some ((iz (-1)), D)
set_option maxRecDepth 4000 in
theorem jC_perform_27 {Γ : nx_G} {M0 : Nat → Option va_E} (u : Nat) (x : Nat) (a1 : Int32) (x1 : Option Nat)   (X : nx_X) (Z : nx_Z) (s4 : Int32 × Int32 × nx_M) : nx_J Γ X (RX7, cX7_perform, 5, (some .int), "perform", 7) Z (Sum.elim (fun s4 : Int32 × Int32 × nx_M => .inl (27, [some (.ref x), some (.int a1), some (va_rf x1), some (.int s4.1), some (.int s4.2.1)], [], (ov M0 s4.2.2))) (fun e12 : Int32 × nx_M => .inl (83, [some (.ref x), some (.int a1), some (va_rf x1), some (.int e12.1), none], [], (ov M0 e12.2)))) (.inl (27, [some (.ref x), some (.int a1), some (va_rf x1), some (.int s4.1), some (.int s4.2.1)], [], (ov M0 s4.2.2))) (fC_perform_27 u Γ x x1 s4) := by
  unfold fC_perform_27
  refine nx_iload rfl dX7_perform_27 rfl ?_
  refine nx_qload_n rfl dX7_perform_29 rfl ?_
  refine nx_guard (fun q5 hq5 => ?_)
  rw [hq5]
  refine g_geti (Or.inr fl_7_239) dX7_perform_30 rfl (fun x6 => ?_)
  refine nx_icmp_ge (t := 83) dX7_perform_33 (by decide) rfl ?_ ?_
  · refine nx_weak (ls' := [some (.ref x), some (.int a1), some (.ref q5), some (.int s4.1), none]) (nx_wk_s (nx_wk_s (nx_wk_s (nx_wk_s (nx_wk_n nx_wk_e))))) ?_
    obtain ⟨_, _, _⟩ := s4
    exact nx_leaf rfl
  · refine nx_aload_n rfl dX7_perform_36 rfl ?_
    refine nx_aload_n rfl dX7_perform_37 rfl ?_
    refine nx_iload rfl dX7_perform_38 rfl ?_
    refine nx_iconst dX7_perform_40 rfl ?_
    refine g_callS [.int s4.2.1, .int (iz 0)] (fun r => .int r) cw_7_240 cv_X3_part (fun M1 c ln f r hw hc e => cS_part X.2.1 hw hc e) rfl rfl (Nat.le_of_ble_eq_true rfl) (Nat.le_of_ble_eq_true rfl) dX7_perform_41 rfl (fun x7 => ?_)
    refine nx_aload_n rfl dX7_perform_44 rfl ?_
    refine nx_iload rfl dX7_perform_45 rfl ?_
    refine nx_iconst dX7_perform_47 rfl ?_
    refine g_callS [.int s4.2.1, .int (iz 1)] (fun r => .int r) cw_7_240 cv_X3_part (fun M1 c ln f r hw hc e => cS_part X.2.1 hw hc e) rfl rfl (Nat.le_of_ble_eq_true rfl) (Nat.le_of_ble_eq_true rfl) dX7_perform_48 rfl (fun x8 => ?_)
    refine nx_aload_n rfl dX7_perform_51 rfl ?_
    refine nx_iload rfl dX7_perform_52 rfl ?_
    refine nx_iconst dX7_perform_54 rfl ?_
    refine g_callS [.int s4.2.1, .int (iz 2)] (fun r => .int r) cw_7_240 cv_X3_part (fun M1 c ln f r hw hc e => cS_part X.2.1 hw hc e) rfl rfl (Nat.le_of_ble_eq_true rfl) (Nat.le_of_ble_eq_true rfl) dX7_perform_55 rfl (fun x9 => ?_)
    refine nx_aload_n rfl dX7_perform_58 rfl ?_
    refine nx_iload rfl dX7_perform_59 rfl ?_
    refine nx_iconst dX7_perform_61 rfl ?_
    refine g_callS [.int s4.2.1, .int (iz 3)] (fun r => .int r) cw_7_240 cv_X3_part (fun M1 c ln f r hw hc e => cS_part X.2.1 hw hc e) rfl rfl (Nat.le_of_ble_eq_true rfl) (Nat.le_of_ble_eq_true rfl) dX7_perform_62 rfl (fun x10 => ?_)
    refine g_callGr [.int x7, .int x8, .int x9, .int x10] (fun r => .int (bz r.1)) (fun r => r.2) cw_7_191 cv_X7_triedQuietly (fun r e => cC_triedQuietly X.2.1 e) rfl rfl (Nat.le_of_ble_eq_true rfl) (Nat.le_of_ble_eq_true rfl) dX7_perform_65 rfl (fun p11 => ?_)
    refine nx_ifz_ne (t := 74) dX7_perform_68 (by decide) rfl ?_ ?_
    · refine nx_iinc [some (.ref x), some (.int a1), some (.ref q5), some (.int (s4.1 + iz 1)), some (.int s4.2.1)] dX7_perform_74 rfl rfl (Nat.le_of_ble_eq_true rfl) rfl rfl ?_
      refine nx_iinc [some (.ref x), some (.int a1), some (.ref q5), some (.int (s4.1 + iz 1)), some (.int (s4.2.1 + iz 1))] dX7_perform_77 rfl rfl (Nat.le_of_ble_eq_true rfl) rfl rfl ?_
      refine nx_goto (q := 27) dX7_perform_80 (by decide) ?_
      obtain ⟨_, _, _⟩ := s4
      obtain ⟨_, _⟩ := p11
      exact nx_leaf rfl
    · refine nx_goto (q := 83) dX7_perform_71 (by decide) ?_
      refine nx_weak (ls' := [some (.ref x), some (.int a1), some (.ref q5), some (.int s4.1), none]) (nx_wk_s (nx_wk_s (nx_wk_s (nx_wk_s (nx_wk_n nx_wk_e))))) ?_
      obtain ⟨_, _, _⟩ := s4
      obtain ⟨_, _⟩ := p11
      exact nx_leaf rfl
set_option maxRecDepth 4000 in
theorem jC_perform {Γ : nx_G} {M0 : Nat → Option va_E} (u : Nat) (D : nx_M) (x : Nat) (a1 : Int32)   (X : nx_X) (Z : nx_Z) : nx_J Γ X (RX7, cX7_perform, 5, (some .int), "perform", 7) Z (fun r0 : Int32 × nx_M => .inr (some (.int r0.1), (ov M0 r0.2))) (.inl (0, [some (.ref x), some (.int a1), none, none, none], [], (ov M0 D))) (fC_perform u Γ D x a1) := by
  unfold fC_perform
  refine nx_aload_n rfl dX7_perform_0 rfl ?_
  refine nx_iload_n rfl dX7_perform_1 rfl ?_
  refine g_callGr [.int a1] (fun r => va_rf r) (fun _ => D) cw_7_235 cv_X7_scriptAt (fun r e => cC_scriptAt X.2.1 e) rfl rfl (Nat.le_of_ble_eq_true rfl) (Nat.le_of_ble_eq_true rfl) dX7_perform_2 rfl (fun x1 => ?_)
  refine nx_qstore_n [some (.ref x), some (.int a1), some (va_rf x1), none, none] dX7_perform_5 rfl (Nat.le_of_ble_eq_true rfl) rfl rfl ?_
  refine nx_qload_n rfl dX7_perform_6 rfl ?_
  refine nx_ifnull (t := 20) dX7_perform_7 (by decide) rfl ?_ ?_
  · refine nx_iconst dX7_perform_20 rfl ?_
    exact nx_iret dX7_perform_21 rfl rfl
  · refine nx_aload_n rfl dX7_perform_10 rfl ?_
    refine g_getr (Or.inl fl_7_37) dX7_perform_11 rfl (fun q2 => ?_)
    refine g_callWr [] (fun r => .int (bz r)) cw_7_110 cv_X6_hasStore (fun M1 c f r hw hc e => cW_hasStore X.2.1 hw hc e) rfl rfl (Nat.le_of_ble_eq_true rfl) (Nat.le_of_ble_eq_true rfl) dX7_perform_14 rfl (fun b3 => ?_)
    refine nx_ifz_ne (t := 22) dX7_perform_17 (by decide) rfl ?_ ?_
    · refine nx_iconst dX7_perform_22 rfl ?_
      refine nx_istore_n [some (.ref x), some (.int a1), some (va_rf x1), some (.int (iz 0)), none] dX7_perform_23 rfl (Nat.le_of_ble_eq_true rfl) (nx_okq (j := 2) rfl rfl) rfl ?_
      refine nx_iconst dX7_perform_24 rfl ?_
      refine nx_istore [some (.ref x), some (.int a1), some (va_rf x1), some (.int (iz 0)), some (.int (iz 0))] dX7_perform_25 rfl (Nat.le_of_ble_eq_true rfl) rfl rfl ?_
      refine nx_seq (C1 := fun e12 : Int32 × nx_M => .inl (83, [some (.ref x), some (.int a1), some (va_rf x1), some (.int e12.1), none], [], (ov M0 e12.2))) (nx_loop (C1 := fun s4 : Int32 × Int32 × nx_M => .inl (27, [some (.ref x), some (.int a1), some (va_rf x1), some (.int s4.1), some (.int s4.2.1)], [], (ov M0 s4.2.2))) (fun s4 => jC_perform_27  u x a1 x1 X Z s4) ((iz 0), (iz 0), D)) (fun e12 => ?_)
      refine nx_iload_n rfl dX7_perform_83 rfl ?_
      exact nx_iret dX7_perform_84 rfl rfl
    · refine nx_iconst dX7_perform_20 rfl ?_
      exact nx_iret dX7_perform_21 rfl rfl
theorem cC_perform (l : Launch) {Γ : nx_G} {M0 : Nat → Option va_E} {u : Nat} {D : nx_M} {x : Nat} {a1 : Int32} {r : Int32 × nx_M}  (h : fC_perform u Γ D x a1 = some r) : nx_Ct l Γ 7 yX7_perform cX7_perform 5 (some .int) [.ref x, .int a1] (ov M0 D) (some (.int r.1), (ov M0 r.2)) :=
  nx_ct (out := fun r0 : Int32 × nx_M => (some (.int r0.1), (ov M0 r0.2))) [some (.ref x), some (.int a1), none, none, none] pn_RX7 h (Nat.le_of_ble_eq_true rfl) rfl (fun X Z _ => jC_perform  u D x a1 X Z)
theorem dX7_rowsOf_0 : decode cX7_rowsOf 0 = .ok (.iconst 1, 1) := by decide +kernel
theorem dX7_rowsOf_1 : decode cX7_rowsOf 1 = .ok (.istore_n 2, 1) := by decide +kernel
theorem dX7_rowsOf_2 : decode cX7_rowsOf 2 = .ok (.iconst 1, 1) := by decide +kernel
theorem dX7_rowsOf_3 : decode cX7_rowsOf 3 = .ok (.istore_n 3, 1) := by decide +kernel
theorem dX7_rowsOf_4 : decode cX7_rowsOf 4 = .ok (.iload_n 3, 1) := by decide +kernel
theorem dX7_rowsOf_5 : decode cX7_rowsOf 5 = .ok (.iload_n 1, 1) := by decide +kernel
theorem dX7_rowsOf_6 : decode cX7_rowsOf 6 = .ok (.if_icmp .gt 17, 3) := by decide +kernel
theorem dX7_rowsOf_9 : decode cX7_rowsOf 9 = .ok (.iload_n 2, 1) := by decide +kernel
theorem dX7_rowsOf_10 : decode cX7_rowsOf 10 = .ok (.iload_n 0, 1) := by decide +kernel
theorem dX7_rowsOf_11 : decode cX7_rowsOf 11 = .ok (.iload_n 3, 1) := by decide +kernel
theorem dX7_rowsOf_12 : decode cX7_rowsOf 12 = .ok (.iadd, 1) := by decide +kernel
theorem dX7_rowsOf_13 : decode cX7_rowsOf 13 = .ok (.imul, 1) := by decide +kernel
theorem dX7_rowsOf_14 : decode cX7_rowsOf 14 = .ok (.iload_n 3, 1) := by decide +kernel
theorem dX7_rowsOf_15 : decode cX7_rowsOf 15 = .ok (.idiv, 1) := by decide +kernel
theorem dX7_rowsOf_16 : decode cX7_rowsOf 16 = .ok (.istore_n 2, 1) := by decide +kernel
theorem dX7_rowsOf_17 : decode cX7_rowsOf 17 = .ok (.iinc 3 1, 3) := by decide +kernel
theorem dX7_rowsOf_20 : decode cX7_rowsOf 20 = .ok (.goto (-16), 3) := by decide +kernel
theorem dX7_rowsOf_23 : decode cX7_rowsOf 23 = .ok (.iload_n 2, 1) := by decide +kernel
theorem dX7_rowsOf_24 : decode cX7_rowsOf 24 = .ok (.ireturn, 1) := by decide +kernel
def fL_rowsOf_4 (a1 : Int32) (a2 : Int32) (s1 : Int32 × Int32) : Option ((Int32 × Int32) ⊕ (Int32)) :=
  if a2 < s1.2 then
    some (.inr s1.1)
  else
    (nx_dv (s1.1 * (a1 + s1.2)) s1.2).bind fun x2 =>
    some (.inl (x2, (s1.2 + iz 1)))
def fL_rowsOf (u : Nat) (a1 : Int32) (a2 : Int32) : Option (Int32) :=
  (nx_iter u (fL_rowsOf_4 a1 a2) ((iz 1), (iz 1))).bind fun e3 =>
  some e3
set_option maxRecDepth 4000 in
theorem jL_rowsOf_4 {Γ : nx_G} {M : nx_M} (a1 : Int32) (a2 : Int32)   (X : nx_X) (Z : nx_Z) (s1 : Int32 × Int32) : nx_J Γ X (RX7, cX7_rowsOf, 4, (some .int), "rowsOf", 1) Z (Sum.elim (fun s1 : Int32 × Int32 => .inl (4, [some (.int a1), some (.int a2), some (.int s1.1), some (.int s1.2)], [], M)) (fun e3 : Int32 => .inl (23, [some (.int a1), some (.int a2), some (.int e3), none], [], M))) (.inl (4, [some (.int a1), some (.int a2), some (.int s1.1), some (.int s1.2)], [], M)) (fL_rowsOf_4 a1 a2 s1) := by
  unfold fL_rowsOf_4
  refine nx_iload_n rfl dX7_rowsOf_4 rfl ?_
  refine nx_iload_n rfl dX7_rowsOf_5 rfl ?_
  refine nx_icmp_gt (t := 23) dX7_rowsOf_6 (by decide) rfl ?_ ?_
  · refine nx_weak (ls' := [some (.int a1), some (.int a2), some (.int s1.1), none]) (nx_wk_s (nx_wk_s (nx_wk_s (nx_wk_n nx_wk_e)))) ?_
    obtain ⟨_, _⟩ := s1
    exact nx_leaf rfl
  · refine nx_iload_n rfl dX7_rowsOf_9 rfl ?_
    refine nx_iload_n rfl dX7_rowsOf_10 rfl ?_
    refine nx_iload_n rfl dX7_rowsOf_11 rfl ?_
    refine nx_iadd dX7_rowsOf_12 rfl ?_
    refine nx_imul dX7_rowsOf_13 rfl ?_
    refine nx_iload_n rfl dX7_rowsOf_14 rfl ?_
    refine nx_idiv dX7_rowsOf_15 rfl (fun x2 => ?_)
    refine nx_istore_n [some (.int a1), some (.int a2), some (.int x2), some (.int s1.2)] dX7_rowsOf_16 rfl (Nat.le_of_ble_eq_true rfl) rfl rfl ?_
    refine nx_iinc [some (.int a1), some (.int a2), some (.int x2), some (.int (s1.2 + iz 1))] dX7_rowsOf_17 rfl rfl (Nat.le_of_ble_eq_true rfl) rfl rfl ?_
    refine nx_goto (q := 4) dX7_rowsOf_20 (by decide) ?_
    obtain ⟨_, _⟩ := s1
    exact nx_leaf rfl
set_option maxRecDepth 4000 in
theorem jL_rowsOf {Γ : nx_G} {M : nx_M} (u : Nat) (a1 : Int32) (a2 : Int32)   (X : nx_X) (Z : nx_Z) : nx_J Γ X (RX7, cX7_rowsOf, 4, (some .int), "rowsOf", 1) Z (fun r0 : Int32 => .inr (some (.int r0), M)) (.inl (0, [some (.int a1), some (.int a2), none, none], [], M)) (fL_rowsOf u a1 a2) := by
  unfold fL_rowsOf
  refine nx_iconst dX7_rowsOf_0 rfl ?_
  refine nx_istore_n [some (.int a1), some (.int a2), some (.int (iz 1)), none] dX7_rowsOf_1 rfl (Nat.le_of_ble_eq_true rfl) rfl rfl ?_
  refine nx_iconst dX7_rowsOf_2 rfl ?_
  refine nx_istore_n [some (.int a1), some (.int a2), some (.int (iz 1)), some (.int (iz 1))] dX7_rowsOf_3 rfl (Nat.le_of_ble_eq_true rfl) rfl rfl ?_
  refine nx_seq (C1 := fun e3 : Int32 => .inl (23, [some (.int a1), some (.int a2), some (.int e3), none], [], M)) (nx_loop (C1 := fun s1 : Int32 × Int32 => .inl (4, [some (.int a1), some (.int a2), some (.int s1.1), some (.int s1.2)], [], M)) (fun s1 => jL_rowsOf_4  a1 a2 X Z s1) ((iz 1), (iz 1))) (fun e3 => ?_)
  refine nx_iload_n rfl dX7_rowsOf_23 rfl ?_
  exact nx_iret dX7_rowsOf_24 rfl rfl
theorem cL_rowsOf (l : Launch) {Γ : nx_G} {M : nx_M} {u : Nat} {a1 : Int32} {a2 : Int32} {r : Int32}  (h : fL_rowsOf u a1 a2 = some r) : nx_Ct l Γ 1 yX7_rowsOf cX7_rowsOf 4 (some .int) [.int a1, .int a2] M (some (.int r), M) :=
  nx_ct (out := fun r0 : Int32 => (some (.int r0), M)) [some (.int a1), some (.int a2), none, none] pn_RX7 h (Nat.le_of_ble_eq_true rfl) rfl (fun X Z _ => jL_rowsOf  u a1 a2 X Z)
theorem dX7_shares_0 : decode cX7_shares 0 = .ok (.aload_n 0, 1) := by decide +kernel
theorem dX7_shares_1 : decode cX7_shares 1 = .ok (.getfield 37, 3) := by decide +kernel
theorem dX7_shares_4 : decode cX7_shares 4 = .ok (.invokevirtual 275, 3) := by decide +kernel
theorem dX7_shares_7 : decode cX7_shares 7 = .ok (.istore_n 3, 1) := by decide +kernel
theorem dX7_shares_8 : decode cX7_shares 8 = .ok (.aload_n 0, 1) := by decide +kernel
theorem dX7_shares_9 : decode cX7_shares 9 = .ok (.getfield 37, 3) := by decide +kernel
theorem dX7_shares_12 : decode cX7_shares 12 = .ok (.iload_n 1, 1) := by decide +kernel
theorem dX7_shares_13 : decode cX7_shares 13 = .ok (.invokevirtual 137, 3) := by decide +kernel
theorem dX7_shares_16 : decode cX7_shares 16 = .ok (.ifCond .eq 18, 3) := by decide +kernel
theorem dX7_shares_19 : decode cX7_shares 19 = .ok (.iload_n 2, 1) := by decide +kernel
theorem dX7_shares_20 : decode cX7_shares 20 = .ok (.ifCond .lt 14, 3) := by decide +kernel
theorem dX7_shares_23 : decode cX7_shares 23 = .ok (.iload_n 2, 1) := by decide +kernel
theorem dX7_shares_24 : decode cX7_shares 24 = .ok (.sipush 999, 3) := by decide +kernel
theorem dX7_shares_27 : decode cX7_shares 27 = .ok (.if_icmp .gt 7, 3) := by decide +kernel
theorem dX7_shares_30 : decode cX7_shares 30 = .ok (.iload_n 3, 1) := by decide +kernel
theorem dX7_shares_31 : decode cX7_shares 31 = .ok (.ifCond .gt 5, 3) := by decide +kernel
theorem dX7_shares_34 : decode cX7_shares 34 = .ok (.iconst (-1), 1) := by decide +kernel
theorem dX7_shares_35 : decode cX7_shares 35 = .ok (.ireturn, 1) := by decide +kernel
theorem dX7_shares_36 : decode cX7_shares 36 = .ok (.iload_n 2, 1) := by decide +kernel
theorem dX7_shares_37 : decode cX7_shares 37 = .ok (.aload_n 0, 1) := by decide +kernel
theorem dX7_shares_38 : decode cX7_shares 38 = .ok (.getfield 37, 3) := by decide +kernel
theorem dX7_shares_41 : decode cX7_shares 41 = .ok (.iload_n 1, 1) := by decide +kernel
theorem dX7_shares_42 : decode cX7_shares 42 = .ok (.invokevirtual 152, 3) := by decide +kernel
theorem dX7_shares_45 : decode cX7_shares 45 = .ok (.imul, 1) := by decide +kernel
theorem dX7_shares_46 : decode cX7_shares 46 = .ok (.iload_n 3, 1) := by decide +kernel
theorem dX7_shares_47 : decode cX7_shares 47 = .ok (.idiv, 1) := by decide +kernel
theorem dX7_shares_48 : decode cX7_shares 48 = .ok (.ireturn, 1) := by decide +kernel
def fC_shares (u : Nat) (Γ : nx_G) (D : nx_M) (x : Nat) (a1 : Int32) (a2 : Int32) : Option (Int32) :=
  (gR D x 7 5).bind fun q1 =>
  (wRd Γ D q1 (fun f => fW_versionsOfAll u f)).bind fun x2 =>
  (gR D x 7 5).bind fun q3 =>
  (wRd Γ D q3 (fun f => fW_hasKey u f a1)).bind fun b4 =>
  if b4 = true then
    if a2 < iz 0 then
      some (iz (-1))
    else
      if (iz 999) < a2 then
        some (iz (-1))
      else
        if iz 0 < x2 then
          (gR D x 7 5).bind fun q5 =>
          (wRd Γ D q5 (fun f => fW_versionsOf u f a1)).bind fun x6 =>
          (nx_dv (a2 * x6) x2).bind fun x7 =>
          some x7
        else
          some (iz (-1))
  else
    some (iz (-1))
set_option maxRecDepth 4000 in
theorem jC_shares {Γ : nx_G} {M0 : Nat → Option va_E} (u : Nat) (D : nx_M) (x : Nat) (a1 : Int32) (a2 : Int32)   (X : nx_X) (Z : nx_Z) : nx_J Γ X (RX7, cX7_shares, 4, (some .int), "shares", 3) Z (fun r0 : Int32 => .inr (some (.int r0), (ov M0 D))) (.inl (0, [some (.ref x), some (.int a1), some (.int a2), none], [], (ov M0 D))) (fC_shares u Γ D x a1 a2) := by
  unfold fC_shares
  refine nx_aload_n rfl dX7_shares_0 rfl ?_
  refine g_getr (Or.inl fl_7_37) dX7_shares_1 rfl (fun q1 => ?_)
  refine g_callWr [] (fun r => .int r) cw_7_275 cv_X6_versionsOfAll (fun M1 c f r hw hc e => cW_versionsOfAll X.2.1 hw hc e) rfl rfl (Nat.le_of_ble_eq_true rfl) (Nat.le_of_ble_eq_true rfl) dX7_shares_4 rfl (fun x2 => ?_)
  refine nx_istore_n [some (.ref x), some (.int a1), some (.int a2), some (.int x2)] dX7_shares_7 rfl (Nat.le_of_ble_eq_true rfl) rfl rfl ?_
  refine nx_aload_n rfl dX7_shares_8 rfl ?_
  refine g_getr (Or.inl fl_7_37) dX7_shares_9 rfl (fun q3 => ?_)
  refine nx_iload_n rfl dX7_shares_12 rfl ?_
  refine g_callWr [.int a1] (fun r => .int (bz r)) cw_7_137 cv_X6_hasKey (fun M1 c f r hw hc e => cW_hasKey X.2.1 hw hc e) rfl rfl (Nat.le_of_ble_eq_true rfl) (Nat.le_of_ble_eq_true rfl) dX7_shares_13 rfl (fun b4 => ?_)
  refine nx_ifz_eq (t := 34) dX7_shares_16 (by decide) rfl ?_ ?_
  · refine nx_iconst dX7_shares_34 rfl ?_
    exact nx_iret dX7_shares_35 rfl rfl
  · refine nx_iload_n rfl dX7_shares_19 rfl ?_
    refine nx_if_lt (t := 34) dX7_shares_20 (by decide) rfl ?_ ?_
    · refine nx_iconst dX7_shares_34 rfl ?_
      exact nx_iret dX7_shares_35 rfl rfl
    · refine nx_iload_n rfl dX7_shares_23 rfl ?_
      refine nx_sipush (by decide +kernel) dX7_shares_24 rfl ?_
      refine nx_icmp_gt (t := 34) dX7_shares_27 (by decide) rfl ?_ ?_
      · refine nx_iconst dX7_shares_34 rfl ?_
        exact nx_iret dX7_shares_35 rfl rfl
      · refine nx_iload_n rfl dX7_shares_30 rfl ?_
        refine nx_if_gt (t := 36) dX7_shares_31 (by decide) rfl ?_ ?_
        · refine nx_iload_n rfl dX7_shares_36 rfl ?_
          refine nx_aload_n rfl dX7_shares_37 rfl ?_
          refine g_getr (Or.inl fl_7_37) dX7_shares_38 rfl (fun q5 => ?_)
          refine nx_iload_n rfl dX7_shares_41 rfl ?_
          refine g_callWr [.int a1] (fun r => .int r) cw_7_152 cv_X6_versionsOf (fun M1 c f r hw hc e => cW_versionsOf X.2.1 hw hc e) rfl rfl (Nat.le_of_ble_eq_true rfl) (Nat.le_of_ble_eq_true rfl) dX7_shares_42 rfl (fun x6 => ?_)
          refine nx_imul dX7_shares_45 rfl ?_
          refine nx_iload_n rfl dX7_shares_46 rfl ?_
          refine nx_idiv dX7_shares_47 rfl (fun x7 => ?_)
          exact nx_iret dX7_shares_48 rfl rfl
        · refine nx_iconst dX7_shares_34 rfl ?_
          exact nx_iret dX7_shares_35 rfl rfl
theorem cC_shares (l : Launch) {Γ : nx_G} {M0 : Nat → Option va_E} {u : Nat} {D : nx_M} {x : Nat} {a1 : Int32} {a2 : Int32} {r : Int32}  (h : fC_shares u Γ D x a1 a2 = some r) : nx_Ct l Γ 3 yX7_shares cX7_shares 4 (some .int) [.ref x, .int a1, .int a2] (ov M0 D) (some (.int r), (ov M0 D)) :=
  nx_ct (out := fun r0 : Int32 => (some (.int r0), (ov M0 D))) [some (.ref x), some (.int a1), some (.int a2), none] pn_RX7 h (Nat.le_of_ble_eq_true rfl) rfl (fun X Z _ => jC_shares  u D x a1 a2 X Z)
theorem dX7_all_0 : decode cX7_all 0 = .ok (.aload_n 0, 1) := by decide +kernel
theorem dX7_all_1 : decode cX7_all 1 = .ok (.getfield 37, 3) := by decide +kernel
theorem dX7_all_4 : decode cX7_all 4 = .ok (.invokevirtual 110, 3) := by decide +kernel
theorem dX7_all_7 : decode cX7_all 7 = .ok (.ifCond .ne 6, 3) := by decide +kernel
theorem dX7_all_10 : decode cX7_all 10 = .ok (.ldc 147, 2) := by decide +kernel
theorem dX7_all_12 : decode cX7_all 12 = .ok (.ireturn, 1) := by decide +kernel
theorem dX7_all_13 : decode cX7_all 13 = .ok (.iload_n 1, 1) := by decide +kernel
theorem dX7_all_14 : decode cX7_all 14 = .ok (.tableswitch 190 0 13 #[70, 79, 88, 97, 106, 114, 122, 130, 138, 146, 154, 166, 174, 182], 70) := by decide +kernel
theorem dX7_all_84 : decode cX7_all 84 = .ok (.aload_n 0, 1) := by decide +kernel
theorem dX7_all_85 : decode cX7_all 85 = .ok (.getfield 37, 3) := by decide +kernel
theorem dX7_all_88 : decode cX7_all 88 = .ok (.iconst 1, 1) := by decide +kernel
theorem dX7_all_89 : decode cX7_all 89 = .ok (.invokevirtual 278, 3) := by decide +kernel
theorem dX7_all_92 : decode cX7_all 92 = .ok (.ireturn, 1) := by decide +kernel
theorem dX7_all_93 : decode cX7_all 93 = .ok (.aload_n 0, 1) := by decide +kernel
theorem dX7_all_94 : decode cX7_all 94 = .ok (.getfield 37, 3) := by decide +kernel
theorem dX7_all_97 : decode cX7_all 97 = .ok (.iconst 2, 1) := by decide +kernel
theorem dX7_all_98 : decode cX7_all 98 = .ok (.invokevirtual 278, 3) := by decide +kernel
theorem dX7_all_101 : decode cX7_all 101 = .ok (.ireturn, 1) := by decide +kernel
theorem dX7_all_102 : decode cX7_all 102 = .ok (.aload_n 0, 1) := by decide +kernel
theorem dX7_all_103 : decode cX7_all 103 = .ok (.getfield 37, 3) := by decide +kernel
theorem dX7_all_106 : decode cX7_all 106 = .ok (.iconst 3, 1) := by decide +kernel
theorem dX7_all_107 : decode cX7_all 107 = .ok (.invokevirtual 278, 3) := by decide +kernel
theorem dX7_all_110 : decode cX7_all 110 = .ok (.ireturn, 1) := by decide +kernel
theorem dX7_all_111 : decode cX7_all 111 = .ok (.aload_n 0, 1) := by decide +kernel
theorem dX7_all_112 : decode cX7_all 112 = .ok (.getfield 37, 3) := by decide +kernel
theorem dX7_all_115 : decode cX7_all 115 = .ok (.iconst 4, 1) := by decide +kernel
theorem dX7_all_116 : decode cX7_all 116 = .ok (.invokevirtual 278, 3) := by decide +kernel
theorem dX7_all_119 : decode cX7_all 119 = .ok (.ireturn, 1) := by decide +kernel
theorem dX7_all_120 : decode cX7_all 120 = .ok (.aload_n 0, 1) := by decide +kernel
theorem dX7_all_121 : decode cX7_all 121 = .ok (.getfield 37, 3) := by decide +kernel
theorem dX7_all_124 : decode cX7_all 124 = .ok (.invokevirtual 281, 3) := by decide +kernel
theorem dX7_all_127 : decode cX7_all 127 = .ok (.ireturn, 1) := by decide +kernel
theorem dX7_all_128 : decode cX7_all 128 = .ok (.aload_n 0, 1) := by decide +kernel
theorem dX7_all_129 : decode cX7_all 129 = .ok (.getfield 37, 3) := by decide +kernel
theorem dX7_all_132 : decode cX7_all 132 = .ok (.invokevirtual 284, 3) := by decide +kernel
theorem dX7_all_135 : decode cX7_all 135 = .ok (.ireturn, 1) := by decide +kernel
theorem dX7_all_136 : decode cX7_all 136 = .ok (.aload_n 0, 1) := by decide +kernel
theorem dX7_all_137 : decode cX7_all 137 = .ok (.getfield 37, 3) := by decide +kernel
theorem dX7_all_140 : decode cX7_all 140 = .ok (.invokevirtual 287, 3) := by decide +kernel
theorem dX7_all_143 : decode cX7_all 143 = .ok (.ireturn, 1) := by decide +kernel
theorem dX7_all_144 : decode cX7_all 144 = .ok (.aload_n 0, 1) := by decide +kernel
theorem dX7_all_145 : decode cX7_all 145 = .ok (.getfield 37, 3) := by decide +kernel
theorem dX7_all_148 : decode cX7_all 148 = .ok (.invokevirtual 290, 3) := by decide +kernel
theorem dX7_all_151 : decode cX7_all 151 = .ok (.ireturn, 1) := by decide +kernel
theorem dX7_all_152 : decode cX7_all 152 = .ok (.aload_n 0, 1) := by decide +kernel
theorem dX7_all_153 : decode cX7_all 153 = .ok (.getfield 37, 3) := by decide +kernel
theorem dX7_all_156 : decode cX7_all 156 = .ok (.invokevirtual 293, 3) := by decide +kernel
theorem dX7_all_159 : decode cX7_all 159 = .ok (.ireturn, 1) := by decide +kernel
theorem dX7_all_160 : decode cX7_all 160 = .ok (.aload_n 0, 1) := by decide +kernel
theorem dX7_all_161 : decode cX7_all 161 = .ok (.getfield 37, 3) := by decide +kernel
theorem dX7_all_164 : decode cX7_all 164 = .ok (.invokevirtual 296, 3) := by decide +kernel
theorem dX7_all_167 : decode cX7_all 167 = .ok (.ireturn, 1) := by decide +kernel
theorem dX7_all_168 : decode cX7_all 168 = .ok (.aload_n 0, 1) := by decide +kernel
theorem dX7_all_169 : decode cX7_all 169 = .ok (.getfield 54, 3) := by decide +kernel
theorem dX7_all_172 : decode cX7_all 172 = .ok (.aload_n 0, 1) := by decide +kernel
theorem dX7_all_173 : decode cX7_all 173 = .ok (.getfield 37, 3) := by decide +kernel
theorem dX7_all_176 : decode cX7_all 176 = .ok (.invokevirtual 299, 3) := by decide +kernel
theorem dX7_all_179 : decode cX7_all 179 = .ok (.ireturn, 1) := by decide +kernel
theorem dX7_all_180 : decode cX7_all 180 = .ok (.aload_n 0, 1) := by decide +kernel
theorem dX7_all_181 : decode cX7_all 181 = .ok (.getfield 37, 3) := by decide +kernel
theorem dX7_all_184 : decode cX7_all 184 = .ok (.invokevirtual 185, 3) := by decide +kernel
theorem dX7_all_187 : decode cX7_all 187 = .ok (.ireturn, 1) := by decide +kernel
theorem dX7_all_188 : decode cX7_all 188 = .ok (.aload_n 0, 1) := by decide +kernel
theorem dX7_all_189 : decode cX7_all 189 = .ok (.getfield 37, 3) := by decide +kernel
theorem dX7_all_192 : decode cX7_all 192 = .ok (.invokevirtual 229, 3) := by decide +kernel
theorem dX7_all_195 : decode cX7_all 195 = .ok (.ireturn, 1) := by decide +kernel
theorem dX7_all_196 : decode cX7_all 196 = .ok (.aload_n 0, 1) := by decide +kernel
theorem dX7_all_197 : decode cX7_all 197 = .ok (.getfield 37, 3) := by decide +kernel
theorem dX7_all_200 : decode cX7_all 200 = .ok (.invokevirtual 275, 3) := by decide +kernel
theorem dX7_all_203 : decode cX7_all 203 = .ok (.ireturn, 1) := by decide +kernel
theorem dX7_all_204 : decode cX7_all 204 = .ok (.ldc 147, 2) := by decide +kernel
theorem dX7_all_206 : decode cX7_all 206 = .ok (.ireturn, 1) := by decide +kernel
def fC_all (u : Nat) (Γ : nx_G) (D : nx_M) (x : Nat) (a1 : Int32) : Option (Int32 × nx_M) :=
  (gR D x 7 5).bind fun q1 =>
  (wRd Γ D q1 (fun f => fW_hasStore u f)).bind fun b2 =>
  if b2 = true then
    nx_sw a1 0 [
      ((gR D x 7 5).bind fun q3 =>
      (wRd Γ D q3 (fun f => fW_seatsIn u f (iz 1))).bind fun x4 =>
      some (x4, D)),
      ((gR D x 7 5).bind fun q5 =>
      (wRd Γ D q5 (fun f => fW_seatsIn u f (iz 2))).bind fun x6 =>
      some (x6, D)),
      ((gR D x 7 5).bind fun q7 =>
      (wRd Γ D q7 (fun f => fW_seatsIn u f (iz 3))).bind fun x8 =>
      some (x8, D)),
      ((gR D x 7 5).bind fun q9 =>
      (wRd Γ D q9 (fun f => fW_seatsIn u f (iz 4))).bind fun x10 =>
      some (x10, D)),
      ((gR D x 7 5).bind fun q11 =>
      (wRd Γ D q11 (fun f => fW_doomedSeats u f)).bind fun x12 =>
      some (x12, D)),
      ((gR D x 7 5).bind fun q13 =>
      (wRd Γ D q13 (fun f => fW_unsureKeys u f)).bind fun x14 =>
      some (x14, D)),
      ((gR D x 7 5).bind fun q15 =>
      (wRd Γ D q15 (fun f => fW_oldestSeat u f)).bind fun x16 =>
      some (x16, D)),
      ((gR D x 7 5).bind fun q17 =>
      (wRd Γ D q17 (fun f => fW_fullestKey u f)).bind fun x18 =>
      some (x18, D)),
      ((gR D x 7 5).bind fun q19 =>
      (wRd Γ D q19 (fun f => fW_worstSeat u f)).bind fun x20 =>
      some (x20, D)),
      ((gR D x 7 5).bind fun q21 =>
      (wRd Γ D q21 (fun f => fW_longestChain u f)).bind fun x22 =>
      some (x22, D)),
      ((gR D x 7 9).bind fun q23 =>
      (gR D x 7 5).bind fun q24 =>
      (gAt D q23 0 (fA_spareOf u Γ D q23 q24)).bind fun p25 =>
      some (p25.1, p25.2)),
      ((gR D x 7 5).bind fun q26 =>
      (wRd Γ D q26 (fun f => fW_clock u f)).bind fun x27 =>
      some (x27, D)),
      ((gR D x 7 5).bind fun q28 =>
      (wRd Γ D q28 (fun f => fW_floor u f)).bind fun x29 =>
      some (x29, D)),
      ((gR D x 7 5).bind fun q30 =>
      (wRd Γ D q30 (fun f => fW_versionsOfAll u f)).bind fun x31 =>
      some (x31, D)) ]
      (some (((-1000000) : Int32), D))
  else
    some (((-1000000) : Int32), D)
set_option maxRecDepth 4000 in
theorem jC_all {Γ : nx_G} {M0 : Nat → Option va_E} (u : Nat) (D : nx_M) (x : Nat) (a1 : Int32)   (X : nx_X) (Z : nx_Z) : nx_J Γ X (RX7, cX7_all, 2, (some .int), "all", 5) Z (fun r0 : Int32 × nx_M => .inr (some (.int r0.1), (ov M0 r0.2))) (.inl (0, [some (.ref x), some (.int a1)], [], (ov M0 D))) (fC_all u Γ D x a1) := by
  unfold fC_all
  refine nx_aload_n rfl dX7_all_0 rfl ?_
  refine g_getr (Or.inl fl_7_37) dX7_all_1 rfl (fun q1 => ?_)
  refine g_callWr [] (fun r => .int (bz r)) cw_7_110 cv_X6_hasStore (fun M1 c f r hw hc e => cW_hasStore X.2.1 hw hc e) rfl rfl (Nat.le_of_ble_eq_true rfl) (Nat.le_of_ble_eq_true rfl) dX7_all_4 rfl (fun b2 => ?_)
  refine nx_ifz_ne (t := 13) dX7_all_7 (by decide) rfl ?_ ?_
  · refine nx_iload_n rfl dX7_all_13 rfl ?_
    refine nx_tsw (td := 204) dX7_all_14 rfl (by decide) ?_ ?_
    · refine nx_ldc wd_544 dX7_all_204 rfl ?_
      exact nx_iret dX7_all_206 rfl rfl
    refine nx_swl_c 84 (by decide) ?_ ?_
    · refine nx_aload_n rfl dX7_all_84 rfl ?_
      refine g_getr (Or.inl fl_7_37) dX7_all_85 rfl (fun q3 => ?_)
      refine nx_iconst dX7_all_88 rfl ?_
      refine g_callWr [.int (iz 1)] (fun r => .int r) cw_7_278 cv_X6_seatsIn (fun M1 c f r hw hc e => cW_seatsIn X.2.1 hw hc e) rfl rfl (Nat.le_of_ble_eq_true rfl) (Nat.le_of_ble_eq_true rfl) dX7_all_89 rfl (fun x4 => ?_)
      exact nx_iret dX7_all_92 rfl rfl
    refine nx_swl_c 93 (by decide) ?_ ?_
    · refine nx_aload_n rfl dX7_all_93 rfl ?_
      refine g_getr (Or.inl fl_7_37) dX7_all_94 rfl (fun q5 => ?_)
      refine nx_iconst dX7_all_97 rfl ?_
      refine g_callWr [.int (iz 2)] (fun r => .int r) cw_7_278 cv_X6_seatsIn (fun M1 c f r hw hc e => cW_seatsIn X.2.1 hw hc e) rfl rfl (Nat.le_of_ble_eq_true rfl) (Nat.le_of_ble_eq_true rfl) dX7_all_98 rfl (fun x6 => ?_)
      exact nx_iret dX7_all_101 rfl rfl
    refine nx_swl_c 102 (by decide) ?_ ?_
    · refine nx_aload_n rfl dX7_all_102 rfl ?_
      refine g_getr (Or.inl fl_7_37) dX7_all_103 rfl (fun q7 => ?_)
      refine nx_iconst dX7_all_106 rfl ?_
      refine g_callWr [.int (iz 3)] (fun r => .int r) cw_7_278 cv_X6_seatsIn (fun M1 c f r hw hc e => cW_seatsIn X.2.1 hw hc e) rfl rfl (Nat.le_of_ble_eq_true rfl) (Nat.le_of_ble_eq_true rfl) dX7_all_107 rfl (fun x8 => ?_)
      exact nx_iret dX7_all_110 rfl rfl
    refine nx_swl_c 111 (by decide) ?_ ?_
    · refine nx_aload_n rfl dX7_all_111 rfl ?_
      refine g_getr (Or.inl fl_7_37) dX7_all_112 rfl (fun q9 => ?_)
      refine nx_iconst dX7_all_115 rfl ?_
      refine g_callWr [.int (iz 4)] (fun r => .int r) cw_7_278 cv_X6_seatsIn (fun M1 c f r hw hc e => cW_seatsIn X.2.1 hw hc e) rfl rfl (Nat.le_of_ble_eq_true rfl) (Nat.le_of_ble_eq_true rfl) dX7_all_116 rfl (fun x10 => ?_)
      exact nx_iret dX7_all_119 rfl rfl
    refine nx_swl_c 120 (by decide) ?_ ?_
    · refine nx_aload_n rfl dX7_all_120 rfl ?_
      refine g_getr (Or.inl fl_7_37) dX7_all_121 rfl (fun q11 => ?_)
      refine g_callWr [] (fun r => .int r) cw_7_281 cv_X6_doomedSeats (fun M1 c f r hw hc e => cW_doomedSeats X.2.1 hw hc e) rfl rfl (Nat.le_of_ble_eq_true rfl) (Nat.le_of_ble_eq_true rfl) dX7_all_124 rfl (fun x12 => ?_)
      exact nx_iret dX7_all_127 rfl rfl
    refine nx_swl_c 128 (by decide) ?_ ?_
    · refine nx_aload_n rfl dX7_all_128 rfl ?_
      refine g_getr (Or.inl fl_7_37) dX7_all_129 rfl (fun q13 => ?_)
      refine g_callWr [] (fun r => .int r) cw_7_284 cv_X6_unsureKeys (fun M1 c f r hw hc e => cW_unsureKeys X.2.1 hw hc e) rfl rfl (Nat.le_of_ble_eq_true rfl) (Nat.le_of_ble_eq_true rfl) dX7_all_132 rfl (fun x14 => ?_)
      exact nx_iret dX7_all_135 rfl rfl
    refine nx_swl_c 136 (by decide) ?_ ?_
    · refine nx_aload_n rfl dX7_all_136 rfl ?_
      refine g_getr (Or.inl fl_7_37) dX7_all_137 rfl (fun q15 => ?_)
      refine g_callWr [] (fun r => .int r) cw_7_287 cv_X6_oldestSeat (fun M1 c f r hw hc e => cW_oldestSeat X.2.1 hw hc e) rfl rfl (Nat.le_of_ble_eq_true rfl) (Nat.le_of_ble_eq_true rfl) dX7_all_140 rfl (fun x16 => ?_)
      exact nx_iret dX7_all_143 rfl rfl
    refine nx_swl_c 144 (by decide) ?_ ?_
    · refine nx_aload_n rfl dX7_all_144 rfl ?_
      refine g_getr (Or.inl fl_7_37) dX7_all_145 rfl (fun q17 => ?_)
      refine g_callWr [] (fun r => .int r) cw_7_290 cv_X6_fullestKey (fun M1 c f r hw hc e => cW_fullestKey X.2.1 hw hc e) rfl rfl (Nat.le_of_ble_eq_true rfl) (Nat.le_of_ble_eq_true rfl) dX7_all_148 rfl (fun x18 => ?_)
      exact nx_iret dX7_all_151 rfl rfl
    refine nx_swl_c 152 (by decide) ?_ ?_
    · refine nx_aload_n rfl dX7_all_152 rfl ?_
      refine g_getr (Or.inl fl_7_37) dX7_all_153 rfl (fun q19 => ?_)
      refine g_callWr [] (fun r => .int r) cw_7_293 cv_X6_worstSeat (fun M1 c f r hw hc e => cW_worstSeat X.2.1 hw hc e) rfl rfl (Nat.le_of_ble_eq_true rfl) (Nat.le_of_ble_eq_true rfl) dX7_all_156 rfl (fun x20 => ?_)
      exact nx_iret dX7_all_159 rfl rfl
    refine nx_swl_c 160 (by decide) ?_ ?_
    · refine nx_aload_n rfl dX7_all_160 rfl ?_
      refine g_getr (Or.inl fl_7_37) dX7_all_161 rfl (fun q21 => ?_)
      refine g_callWr [] (fun r => .int r) cw_7_296 cv_X6_longestChain (fun M1 c f r hw hc e => cW_longestChain X.2.1 hw hc e) rfl rfl (Nat.le_of_ble_eq_true rfl) (Nat.le_of_ble_eq_true rfl) dX7_all_164 rfl (fun x22 => ?_)
      exact nx_iret dX7_all_167 rfl rfl
    refine nx_swl_c 168 (by decide) ?_ ?_
    · refine nx_aload_n rfl dX7_all_168 rfl ?_
      refine g_getr (Or.inl fl_7_54) dX7_all_169 rfl (fun q23 => ?_)
      refine nx_aload_n rfl dX7_all_172 rfl ?_
      refine g_getr (Or.inl fl_7_37) dX7_all_173 rfl (fun q24 => ?_)
      refine g_callGr [.ref q24] (fun r => .int r.1) (fun r => r.2) cw_7_299 cv_X0_spareOf (fun r e => cA_spareOf X.2.1 e) rfl rfl (Nat.le_of_ble_eq_true rfl) (Nat.le_of_ble_eq_true rfl) dX7_all_176 rfl (fun p25 => ?_)
      exact nx_iret dX7_all_179 rfl rfl
    refine nx_swl_c 180 (by decide) ?_ ?_
    · refine nx_aload_n rfl dX7_all_180 rfl ?_
      refine g_getr (Or.inl fl_7_37) dX7_all_181 rfl (fun q26 => ?_)
      refine g_callWr [] (fun r => .int r) cw_7_185 cv_X6_clock (fun M1 c f r hw hc e => cW_clock X.2.1 hw hc e) rfl rfl (Nat.le_of_ble_eq_true rfl) (Nat.le_of_ble_eq_true rfl) dX7_all_184 rfl (fun x27 => ?_)
      exact nx_iret dX7_all_187 rfl rfl
    refine nx_swl_c 188 (by decide) ?_ ?_
    · refine nx_aload_n rfl dX7_all_188 rfl ?_
      refine g_getr (Or.inl fl_7_37) dX7_all_189 rfl (fun q28 => ?_)
      refine g_callWr [] (fun r => .int r) cw_7_229 cv_X6_floor (fun M1 c f r hw hc e => cW_floor X.2.1 hw hc e) rfl rfl (Nat.le_of_ble_eq_true rfl) (Nat.le_of_ble_eq_true rfl) dX7_all_192 rfl (fun x29 => ?_)
      exact nx_iret dX7_all_195 rfl rfl
    refine nx_swl_c 196 (by decide) ?_ ?_
    · refine nx_aload_n rfl dX7_all_196 rfl ?_
      refine g_getr (Or.inl fl_7_37) dX7_all_197 rfl (fun q30 => ?_)
      refine g_callWr [] (fun r => .int r) cw_7_275 cv_X6_versionsOfAll (fun M1 c f r hw hc e => cW_versionsOfAll X.2.1 hw hc e) rfl rfl (Nat.le_of_ble_eq_true rfl) (Nat.le_of_ble_eq_true rfl) dX7_all_200 rfl (fun x31 => ?_)
      exact nx_iret dX7_all_203 rfl rfl
    exact nx_swl_e
  · refine nx_ldc wd_544 dX7_all_10 rfl ?_
    exact nx_iret dX7_all_12 rfl rfl
theorem cC_all (l : Launch) {Γ : nx_G} {M0 : Nat → Option va_E} {u : Nat} {D : nx_M} {x : Nat} {a1 : Int32} {r : Int32 × nx_M}  (h : fC_all u Γ D x a1 = some r) : nx_Ct l Γ 5 yX7_all cX7_all 2 (some .int) [.ref x, .int a1] (ov M0 D) (some (.int r.1), (ov M0 r.2)) :=
  nx_ct (out := fun r0 : Int32 × nx_M => (some (.int r0.1), (ov M0 r0.2))) [some (.ref x), some (.int a1)] pn_RX7 h (Nat.le_of_ble_eq_true rfl) rfl (fun X Z _ => jC_all  u D x a1 X Z)
