theorem dX7_image_0 : decode cX7_image 0 = .ok (.aload_n 0, 1) := by decide +kernel
theorem dX7_image_1 : decode cX7_image 1 = .ok (.getfield 37, 3) := by decide +kernel
theorem dX7_image_4 : decode cX7_image 4 = .ok (.invokevirtual 110, 3) := by decide +kernel
theorem dX7_image_7 : decode cX7_image 7 = .ok (.ifCond .ne 5, 3) := by decide +kernel
theorem dX7_image_10 : decode cX7_image 10 = .ok (.iconst (-1), 1) := by decide +kernel
theorem dX7_image_11 : decode cX7_image 11 = .ok (.ireturn, 1) := by decide +kernel
theorem dX7_image_12 : decode cX7_image 12 = .ok (.aload_n 0, 1) := by decide +kernel
theorem dX7_image_13 : decode cX7_image 13 = .ok (.getfield 48, 3) := by decide +kernel
theorem dX7_image_16 : decode cX7_image 16 = .ok (.aload_n 0, 1) := by decide +kernel
theorem dX7_image_17 : decode cX7_image 17 = .ok (.getfield 37, 3) := by decide +kernel
theorem dX7_image_20 : decode cX7_image 20 = .ok (.invokevirtual 302, 3) := by decide +kernel
theorem dX7_image_23 : decode cX7_image 23 = .ok (.aload_n 0, 1) := by decide +kernel
theorem dX7_image_24 : decode cX7_image 24 = .ok (.iconst 1, 1) := by decide +kernel
theorem dX7_image_25 : decode cX7_image 25 = .ok (.putfield 100, 3) := by decide +kernel
theorem dX7_image_28 : decode cX7_image 28 = .ok (.aload_n 0, 1) := by decide +kernel
theorem dX7_image_29 : decode cX7_image 29 = .ok (.getfield 37, 3) := by decide +kernel
theorem dX7_image_32 : decode cX7_image 32 = .ok (.invokevirtual 185, 3) := by decide +kernel
theorem dX7_image_35 : decode cX7_image 35 = .ok (.ireturn, 1) := by decide +kernel
def fC_image (u : Nat) (Γ : nx_G) (D : nx_M) (x : Nat) : Option (Int32 × nx_M) :=
  (gR D x 7 5).bind fun q1 =>
  (wRd Γ D q1 (fun f => fW_hasStore u f)).bind fun b2 =>
  if b2 = true then
    (gR D x 7 7).bind fun q3 =>
    (gR D x 7 5).bind fun q4 =>
    (gAt D q3 6 (fW_become u Γ D q3 q4)).bind fun D5 =>
    (gPut D5 x 7 8 (.int (iz 1))).bind fun D6 =>
    (gR D6 x 7 5).bind fun q7 =>
    (wRd Γ D6 q7 (fun f => fW_clock u f)).bind fun x8 =>
    some (x8, D6)
  else
    some ((iz (-1)), D)
set_option maxRecDepth 4000 in
theorem jC_image {Γ : nx_G} {M0 : Nat → Option va_E} (u : Nat) (D : nx_M) (x : Nat)   (X : nx_X) (Z : nx_Z) : nx_J Γ X (RX7, cX7_image, 1, (some .int), "image", 2) Z (fun r0 : Int32 × nx_M => .inr (some (.int r0.1), (ov M0 r0.2))) (.inl (0, [some (.ref x)], [], (ov M0 D))) (fC_image u Γ D x) := by
  unfold fC_image
  refine nx_aload_n rfl dX7_image_0 rfl ?_
  refine g_getr (Or.inl fl_7_37) dX7_image_1 rfl (fun q1 => ?_)
  refine g_callWr [] (fun r => .int (bz r)) cw_7_110 cv_X6_hasStore (fun M1 c f r hw hc e => cW_hasStore X.2.1 hw hc e) rfl rfl (Nat.le_of_ble_eq_true rfl) (Nat.le_of_ble_eq_true rfl) dX7_image_4 rfl (fun b2 => ?_)
  refine nx_ifz_ne (t := 12) dX7_image_7 (by decide) rfl ?_ ?_
  · refine nx_aload_n rfl dX7_image_12 rfl ?_
    refine g_getr (Or.inl fl_7_48) dX7_image_13 rfl (fun q3 => ?_)
    refine nx_aload_n rfl dX7_image_16 rfl ?_
    refine g_getr (Or.inl fl_7_37) dX7_image_17 rfl (fun q4 => ?_)
    refine g_callGv [.ref q4] (fun r => r) cw_7_302 cv_X6_become (fun r e => cW_become X.2.1 e) rfl rfl (Nat.le_of_ble_eq_true rfl) (Nat.le_of_ble_eq_true rfl) dX7_image_20 rfl (fun D5 => ?_)
    refine nx_aload_n rfl dX7_image_23 rfl ?_
    refine nx_iconst dX7_image_24 rfl ?_
    refine g_put (Or.inl fl_7_100) ft_7_8 (by decide +kernel) (by decide +kernel) dX7_image_25 rfl (fun D6 => ?_)
    refine nx_aload_n rfl dX7_image_28 rfl ?_
    refine g_getr (Or.inl fl_7_37) dX7_image_29 rfl (fun q7 => ?_)
    refine g_callWr [] (fun r => .int r) cw_7_185 cv_X6_clock (fun M1 c f r hw hc e => cW_clock X.2.1 hw hc e) rfl rfl (Nat.le_of_ble_eq_true rfl) (Nat.le_of_ble_eq_true rfl) dX7_image_32 rfl (fun x8 => ?_)
    exact nx_iret dX7_image_35 rfl rfl
  · refine nx_iconst dX7_image_10 rfl ?_
    exact nx_iret dX7_image_11 rfl rfl
theorem cC_image (l : Launch) {Γ : nx_G} {M0 : Nat → Option va_E} {u : Nat} {D : nx_M} {x : Nat} {r : Int32 × nx_M}  (h : fC_image u Γ D x = some r) : nx_Ct l Γ 2 yX7_image cX7_image 1 (some .int) [.ref x] (ov M0 D) (some (.int r.1), (ov M0 r.2)) :=
  nx_ct (out := fun r0 : Int32 × nx_M => (some (.int r0.1), (ov M0 r0.2))) [some (.ref x)] pn_RX7 h (Nat.le_of_ble_eq_true rfl) rfl (fun X Z _ => jC_image  u D x X Z)
theorem dX7_back_0 : decode cX7_back 0 = .ok (.aload_n 0, 1) := by decide +kernel
theorem dX7_back_1 : decode cX7_back 1 = .ok (.getfield 100, 3) := by decide +kernel
theorem dX7_back_4 : decode cX7_back 4 = .ok (.ifCond .ne 5, 3) := by decide +kernel
theorem dX7_back_7 : decode cX7_back 7 = .ok (.iconst (-1), 1) := by decide +kernel
theorem dX7_back_8 : decode cX7_back 8 = .ok (.ireturn, 1) := by decide +kernel
theorem dX7_back_9 : decode cX7_back 9 = .ok (.aload_n 0, 1) := by decide +kernel
theorem dX7_back_10 : decode cX7_back 10 = .ok (.getfield 37, 3) := by decide +kernel
theorem dX7_back_13 : decode cX7_back 13 = .ok (.aload_n 0, 1) := by decide +kernel
theorem dX7_back_14 : decode cX7_back 14 = .ok (.getfield 48, 3) := by decide +kernel
theorem dX7_back_17 : decode cX7_back 17 = .ok (.invokevirtual 302, 3) := by decide +kernel
theorem dX7_back_20 : decode cX7_back 20 = .ok (.aload_n 0, 1) := by decide +kernel
theorem dX7_back_21 : decode cX7_back 21 = .ok (.getfield 44, 3) := by decide +kernel
theorem dX7_back_24 : decode cX7_back 24 = .ok (.invokevirtual 97, 3) := by decide +kernel
theorem dX7_back_27 : decode cX7_back 27 = .ok (.aload_n 0, 1) := by decide +kernel
theorem dX7_back_28 : decode cX7_back 28 = .ok (.getfield 37, 3) := by decide +kernel
theorem dX7_back_31 : decode cX7_back 31 = .ok (.invokevirtual 185, 3) := by decide +kernel
theorem dX7_back_34 : decode cX7_back 34 = .ok (.ireturn, 1) := by decide +kernel
def fC_back (u : Nat) (Γ : nx_G) (D : nx_M) (x : Nat) : Option (Int32 × nx_M) :=
  (gI D x 7 8).bind fun x1 =>
  if x1 = iz 0 then
    some ((iz (-1)), D)
  else
    (gR D x 7 5).bind fun q2 =>
    (gR D x 7 7).bind fun q3 =>
    (gAt D q2 6 (fW_become u Γ D q2 q3)).bind fun D4 =>
    (gR D4 x 7 6).bind fun q5 =>
    (gAt D4 q5 2 (fQ_forget u Γ D4 q5)).bind fun D6 =>
    (gR D6 x 7 5).bind fun q7 =>
    (wRd Γ D6 q7 (fun f => fW_clock u f)).bind fun x8 =>
    some (x8, D6)
set_option maxRecDepth 4000 in
theorem jC_back {Γ : nx_G} {M0 : Nat → Option va_E} (u : Nat) (D : nx_M) (x : Nat)   (X : nx_X) (Z : nx_Z) : nx_J Γ X (RX7, cX7_back, 1, (some .int), "back", 2) Z (fun r0 : Int32 × nx_M => .inr (some (.int r0.1), (ov M0 r0.2))) (.inl (0, [some (.ref x)], [], (ov M0 D))) (fC_back u Γ D x) := by
  unfold fC_back
  refine nx_aload_n rfl dX7_back_0 rfl ?_
  refine g_geti (Or.inl fl_7_100) dX7_back_1 rfl (fun x1 => ?_)
  refine nx_if_ne (t := 9) dX7_back_4 (by decide) rfl ?_ ?_
  · refine nx_aload_n rfl dX7_back_9 rfl ?_
    refine g_getr (Or.inl fl_7_37) dX7_back_10 rfl (fun q2 => ?_)
    refine nx_aload_n rfl dX7_back_13 rfl ?_
    refine g_getr (Or.inl fl_7_48) dX7_back_14 rfl (fun q3 => ?_)
    refine g_callGv [.ref q3] (fun r => r) cw_7_302 cv_X6_become (fun r e => cW_become X.2.1 e) rfl rfl (Nat.le_of_ble_eq_true rfl) (Nat.le_of_ble_eq_true rfl) dX7_back_17 rfl (fun D4 => ?_)
    refine nx_aload_n rfl dX7_back_20 rfl ?_
    refine g_getr (Or.inl fl_7_44) dX7_back_21 rfl (fun q5 => ?_)
    refine g_callGv [] (fun r => r) cw_7_97 cv_X2_forget (fun r e => cQ_forget X.2.1 e) rfl rfl (Nat.le_of_ble_eq_true rfl) (Nat.le_of_ble_eq_true rfl) dX7_back_24 rfl (fun D6 => ?_)
    refine nx_aload_n rfl dX7_back_27 rfl ?_
    refine g_getr (Or.inl fl_7_37) dX7_back_28 rfl (fun q7 => ?_)
    refine g_callWr [] (fun r => .int r) cw_7_185 cv_X6_clock (fun M1 c f r hw hc e => cW_clock X.2.1 hw hc e) rfl rfl (Nat.le_of_ble_eq_true rfl) (Nat.le_of_ble_eq_true rfl) dX7_back_31 rfl (fun x8 => ?_)
    exact nx_iret dX7_back_34 rfl rfl
  · refine nx_iconst dX7_back_7 rfl ?_
    exact nx_iret dX7_back_8 rfl rfl
theorem cC_back (l : Launch) {Γ : nx_G} {M0 : Nat → Option va_E} {u : Nat} {D : nx_M} {x : Nat} {r : Int32 × nx_M}  (h : fC_back u Γ D x = some r) : nx_Ct l Γ 2 yX7_back cX7_back 1 (some .int) [.ref x] (ov M0 D) (some (.int r.1), (ov M0 r.2)) :=
  nx_ct (out := fun r0 : Int32 × nx_M => (some (.int r0.1), (ov M0 r0.2))) [some (.ref x)] pn_RX7 h (Nat.le_of_ble_eq_true rfl) rfl (fun X Z _ => jC_back  u D x X Z)
theorem dX7_count_0 : decode cX7_count 0 = .ok (.iload_n 1, 1) := by decide +kernel
theorem dX7_count_1 : decode cX7_count 1 = .ok (.tableswitch 84 0 5 #[39, 47, 52, 60, 68, 76], 39) := by decide +kernel
theorem dX7_count_40 : decode cX7_count 40 = .ok (.aload_n 0, 1) := by decide +kernel
theorem dX7_count_41 : decode cX7_count 41 = .ok (.getfield 37, 3) := by decide +kernel
theorem dX7_count_44 : decode cX7_count 44 = .ok (.invokevirtual 104, 3) := by decide +kernel
theorem dX7_count_47 : decode cX7_count 47 = .ok (.ireturn, 1) := by decide +kernel
theorem dX7_count_48 : decode cX7_count 48 = .ok (.aload_n 0, 1) := by decide +kernel
theorem dX7_count_49 : decode cX7_count 49 = .ok (.getfield 107, 3) := by decide +kernel
theorem dX7_count_52 : decode cX7_count 52 = .ok (.ireturn, 1) := by decide +kernel
theorem dX7_count_53 : decode cX7_count 53 = .ok (.aload_n 0, 1) := by decide +kernel
theorem dX7_count_54 : decode cX7_count 54 = .ok (.getfield 10, 3) := by decide +kernel
theorem dX7_count_57 : decode cX7_count 57 = .ok (.getfield 73, 3) := by decide +kernel
theorem dX7_count_60 : decode cX7_count 60 = .ok (.ireturn, 1) := by decide +kernel
theorem dX7_count_61 : decode cX7_count 61 = .ok (.aload_n 0, 1) := by decide +kernel
theorem dX7_count_62 : decode cX7_count 62 = .ok (.getfield 37, 3) := by decide +kernel
theorem dX7_count_65 : decode cX7_count 65 = .ok (.invokevirtual 305, 3) := by decide +kernel
theorem dX7_count_68 : decode cX7_count 68 = .ok (.ireturn, 1) := by decide +kernel
theorem dX7_count_69 : decode cX7_count 69 = .ok (.aload_n 0, 1) := by decide +kernel
theorem dX7_count_70 : decode cX7_count 70 = .ok (.getfield 37, 3) := by decide +kernel
theorem dX7_count_73 : decode cX7_count 73 = .ok (.invokevirtual 198, 3) := by decide +kernel
theorem dX7_count_76 : decode cX7_count 76 = .ok (.ireturn, 1) := by decide +kernel
theorem dX7_count_77 : decode cX7_count 77 = .ok (.aload_n 0, 1) := by decide +kernel
theorem dX7_count_78 : decode cX7_count 78 = .ok (.getfield 44, 3) := by decide +kernel
theorem dX7_count_81 : decode cX7_count 81 = .ok (.getfield 308, 3) := by decide +kernel
theorem dX7_count_84 : decode cX7_count 84 = .ok (.ireturn, 1) := by decide +kernel
theorem dX7_count_85 : decode cX7_count 85 = .ok (.ldc 147, 2) := by decide +kernel
theorem dX7_count_87 : decode cX7_count 87 = .ok (.ireturn, 1) := by decide +kernel
def fC_count (u : Nat) (Γ : nx_G) (D : nx_M) (x : Nat) (a1 : Int32) : Option (Int32) :=
  nx_sw a1 0 [
    ((gR D x 7 5).bind fun q1 =>
    (wRd Γ D q1 (fun f => fW_keys u f)).bind fun x2 =>
    some x2),
    ((gI D x 7 4).bind fun x3 =>
    some x3),
    ((gR D x 7 0).bind fun q4 =>
    (gI D q4 5 1).bind fun x5 =>
    some x5),
    ((gR D x 7 5).bind fun q6 =>
    (wRd Γ D q6 (fun f => fW_stampsByHand u f)).bind fun x7 =>
    some x7),
    ((gR D x 7 5).bind fun q8 =>
    (wRd Γ D q8 (fun f => fW_logLength u f)).bind fun x9 =>
    some x9),
    ((gR D x 7 6).bind fun q10 =>
    (gI D q10 2 2).bind fun x11 =>
    some x11) ]
    (some ((-1000000) : Int32))
set_option maxRecDepth 4000 in
theorem jC_count {Γ : nx_G} {M0 : Nat → Option va_E} (u : Nat) (D : nx_M) (x : Nat) (a1 : Int32)   (X : nx_X) (Z : nx_Z) : nx_J Γ X (RX7, cX7_count, 2, (some .int), "count", 2) Z (fun r0 : Int32 => .inr (some (.int r0), (ov M0 D))) (.inl (0, [some (.ref x), some (.int a1)], [], (ov M0 D))) (fC_count u Γ D x a1) := by
  unfold fC_count
  refine nx_iload_n rfl dX7_count_0 rfl ?_
  refine nx_tsw (td := 85) dX7_count_1 rfl (by decide) ?_ ?_
  · refine nx_ldc wd_544 dX7_count_85 rfl ?_
    exact nx_iret dX7_count_87 rfl rfl
  refine nx_swl_c 40 (by decide) ?_ ?_
  · refine nx_aload_n rfl dX7_count_40 rfl ?_
    refine g_getr (Or.inl fl_7_37) dX7_count_41 rfl (fun q1 => ?_)
    refine g_callWr [] (fun r => .int r) cw_7_104 cv_X6_keys (fun M1 c f r hw hc e => cW_keys X.2.1 hw hc e) rfl rfl (Nat.le_of_ble_eq_true rfl) (Nat.le_of_ble_eq_true rfl) dX7_count_44 rfl (fun x2 => ?_)
    exact nx_iret dX7_count_47 rfl rfl
  refine nx_swl_c 48 (by decide) ?_ ?_
  · refine nx_aload_n rfl dX7_count_48 rfl ?_
    refine g_geti (Or.inl fl_7_107) dX7_count_49 rfl (fun x3 => ?_)
    exact nx_iret dX7_count_52 rfl rfl
  refine nx_swl_c 53 (by decide) ?_ ?_
  · refine nx_aload_n rfl dX7_count_53 rfl ?_
    refine g_getr (Or.inl fl_7_10) dX7_count_54 rfl (fun q4 => ?_)
    refine g_geti (Or.inr fl_7_73) dX7_count_57 rfl (fun x5 => ?_)
    exact nx_iret dX7_count_60 rfl rfl
  refine nx_swl_c 61 (by decide) ?_ ?_
  · refine nx_aload_n rfl dX7_count_61 rfl ?_
    refine g_getr (Or.inl fl_7_37) dX7_count_62 rfl (fun q6 => ?_)
    refine g_callWr [] (fun r => .int r) cw_7_305 cv_X6_stampsByHand (fun M1 c f r hw hc e => cW_stampsByHand X.2.1 hw hc e) rfl rfl (Nat.le_of_ble_eq_true rfl) (Nat.le_of_ble_eq_true rfl) dX7_count_65 rfl (fun x7 => ?_)
    exact nx_iret dX7_count_68 rfl rfl
  refine nx_swl_c 69 (by decide) ?_ ?_
  · refine nx_aload_n rfl dX7_count_69 rfl ?_
    refine g_getr (Or.inl fl_7_37) dX7_count_70 rfl (fun q8 => ?_)
    refine g_callWr [] (fun r => .int r) cw_7_198 cv_X6_logLength (fun M1 c f r hw hc e => cW_logLength X.2.1 hw hc e) rfl rfl (Nat.le_of_ble_eq_true rfl) (Nat.le_of_ble_eq_true rfl) dX7_count_73 rfl (fun x9 => ?_)
    exact nx_iret dX7_count_76 rfl rfl
  refine nx_swl_c 77 (by decide) ?_ ?_
  · refine nx_aload_n rfl dX7_count_77 rfl ?_
    refine g_getr (Or.inl fl_7_44) dX7_count_78 rfl (fun q10 => ?_)
    refine g_geti (Or.inr fl_7_308) dX7_count_81 rfl (fun x11 => ?_)
    exact nx_iret dX7_count_84 rfl rfl
  exact nx_swl_e
theorem cC_count (l : Launch) {Γ : nx_G} {M0 : Nat → Option va_E} {u : Nat} {D : nx_M} {x : Nat} {a1 : Int32} {r : Int32}  (h : fC_count u Γ D x a1 = some r) : nx_Ct l Γ 2 yX7_count cX7_count 2 (some .int) [.ref x, .int a1] (ov M0 D) (some (.int r), (ov M0 D)) :=
  nx_ct (out := fun r0 : Int32 => (some (.int r0), (ov M0 D))) [some (.ref x), some (.int a1)] pn_RX7 h (Nat.le_of_ble_eq_true rfl) rfl (fun X Z _ => jC_count  u D x a1 X Z)
theorem dX8_init_0 : decode cX8_init 0 = .ok (.aload_n 0, 1) := by decide +kernel
theorem dX8_init_1 : decode cX8_init 1 = .ok (.invokespecial 3, 3) := by decide +kernel
theorem dX8_init_4 : decode cX8_init 4 = .ok (.aload_n 0, 1) := by decide +kernel
theorem dX8_init_5 : decode cX8_init 5 = .ok (.sipush 240, 3) := by decide +kernel
theorem dX8_init_8 : decode cX8_init 8 = .ok (.newarray .int, 2) := by decide +kernel
theorem dX8_init_10 : decode cX8_init 10 = .ok (.putfield 9, 3) := by decide +kernel
theorem dX8_init_13 : decode cX8_init 13 = .ok (.aload_n 0, 1) := by decide +kernel
theorem dX8_init_14 : decode cX8_init 14 = .ok (.iconst 3, 1) := by decide +kernel
theorem dX8_init_15 : decode cX8_init 15 = .ok (.newarray .int, 2) := by decide +kernel
theorem dX8_init_17 : decode cX8_init 17 = .ok (.putfield 13, 3) := by decide +kernel
theorem dX8_init_20 : decode cX8_init 20 = .ok (.aload_n 0, 1) := by decide +kernel
theorem dX8_init_21 : decode cX8_init 21 = .ok (.bipush 6, 2) := by decide +kernel
theorem dX8_init_23 : decode cX8_init 23 = .ok (.newarray .int, 2) := by decide +kernel
theorem dX8_init_25 : decode cX8_init 25 = .ok (.putfield 16, 3) := by decide +kernel
theorem dX8_init_28 : decode cX8_init 28 = .ok (.aload_n 0, 1) := by decide +kernel
theorem dX8_init_29 : decode cX8_init 29 = .ok (.iconst 3, 1) := by decide +kernel
theorem dX8_init_30 : decode cX8_init 30 = .ok (.newarray .int, 2) := by decide +kernel
theorem dX8_init_32 : decode cX8_init 32 = .ok (.putfield 19, 3) := by decide +kernel
theorem dX8_init_35 : decode cX8_init 35 = .ok (.aload_n 0, 1) := by decide +kernel
theorem dX8_init_36 : decode cX8_init 36 = .ok (.sipush 320, 3) := by decide +kernel
theorem dX8_init_39 : decode cX8_init 39 = .ok (.newarray .int, 2) := by decide +kernel
theorem dX8_init_41 : decode cX8_init 41 = .ok (.putfield 22, 3) := by decide +kernel
theorem dX8_init_44 : decode cX8_init 44 = .ok (.aload_n 0, 1) := by decide +kernel
theorem dX8_init_45 : decode cX8_init 45 = .ok (.iconst 5, 1) := by decide +kernel
theorem dX8_init_46 : decode cX8_init 46 = .ok (.newarray .int, 2) := by decide +kernel
theorem dX8_init_48 : decode cX8_init 48 = .ok (.putfield 25, 3) := by decide +kernel
theorem dX8_init_51 : decode cX8_init 51 = .ok (.aload_n 0, 1) := by decide +kernel
theorem dX8_init_52 : decode cX8_init 52 = .ok (.sipush 820, 3) := by decide +kernel
theorem dX8_init_55 : decode cX8_init 55 = .ok (.newarray .int, 2) := by decide +kernel
theorem dX8_init_57 : decode cX8_init 57 = .ok (.putfield 28, 3) := by decide +kernel
theorem dX8_init_60 : decode cX8_init 60 = .ok (.aload_n 0, 1) := by decide +kernel
theorem dX8_init_61 : decode cX8_init 61 = .ok (.iconst 4, 1) := by decide +kernel
theorem dX8_init_62 : decode cX8_init 62 = .ok (.newarray .int, 2) := by decide +kernel
theorem dX8_init_64 : decode cX8_init 64 = .ok (.putfield 31, 3) := by decide +kernel
theorem dX8_init_67 : decode cX8_init 67 = .ok (.aload_n 0, 1) := by decide +kernel
theorem dX8_init_68 : decode cX8_init 68 = .ok (.bipush 37, 2) := by decide +kernel
theorem dX8_init_70 : decode cX8_init 70 = .ok (.newarray .int, 2) := by decide +kernel
theorem dX8_init_72 : decode cX8_init 72 = .ok (.putfield 34, 3) := by decide +kernel
theorem dX8_init_75 : decode cX8_init 75 = .ok (.aload_n 0, 1) := by decide +kernel
theorem dX8_init_76 : decode cX8_init 76 = .ok (.ldc 37, 2) := by decide +kernel
theorem dX8_init_78 : decode cX8_init 78 = .ok (.newarray .int, 2) := by decide +kernel
theorem dX8_init_80 : decode cX8_init 80 = .ok (.putfield 38, 3) := by decide +kernel
theorem dX8_init_83 : decode cX8_init 83 = .ok (.aload_n 0, 1) := by decide +kernel
theorem dX8_init_84 : decode cX8_init 84 = .ok (.sipush 20448, 3) := by decide +kernel
theorem dX8_init_87 : decode cX8_init 87 = .ok (.newarray .int, 2) := by decide +kernel
theorem dX8_init_89 : decode cX8_init 89 = .ok (.putfield 41, 3) := by decide +kernel
theorem dX8_init_92 : decode cX8_init 92 = .ok (.aload_n 0, 1) := by decide +kernel
theorem dX8_init_93 : decode cX8_init 93 = .ok (.bipush 8, 2) := by decide +kernel
theorem dX8_init_95 : decode cX8_init 95 = .ok (.newarray .int, 2) := by decide +kernel
theorem dX8_init_97 : decode cX8_init 97 = .ok (.putfield 44, 3) := by decide +kernel
theorem dX8_init_100 : decode cX8_init 100 = .ok (.aload_n 0, 1) := by decide +kernel
theorem dX8_init_101 : decode cX8_init 101 = .ok (.sipush 820, 3) := by decide +kernel
theorem dX8_init_104 : decode cX8_init 104 = .ok (.newarray .int, 2) := by decide +kernel
theorem dX8_init_106 : decode cX8_init 106 = .ok (.putfield 47, 3) := by decide +kernel
theorem dX8_init_109 : decode cX8_init 109 = .ok (.return_, 1) := by decide +kernel
def fM_init (u : Nat) (Γ : nx_G) (D : nx_M) (x : Nat) : Option (nx_M) :=
  (some (nx_al D (.inl (Γ.2.2.2.1 0, 240, .inl (fun _ => 0))) 240)).bind fun D1 =>
  (gPut D1 x 8 1 (.ref D.2.1)).bind fun D2 =>
  (some (nx_al D2 (.inl (Γ.2.2.2.1 0, 3, .inl (fun _ => 0))) 3)).bind fun D3 =>
  (gPut D3 x 8 5 (.ref D2.2.1)).bind fun D4 =>
  (some (nx_al D4 (.inl (Γ.2.2.2.1 0, 6, .inl (fun _ => 0))) 6)).bind fun D5 =>
  (gPut D5 x 8 6 (.ref D4.2.1)).bind fun D6 =>
  (some (nx_al D6 (.inl (Γ.2.2.2.1 0, 3, .inl (fun _ => 0))) 3)).bind fun D7 =>
  (gPut D7 x 8 8 (.ref D6.2.1)).bind fun D8 =>
  (some (nx_al D8 (.inl (Γ.2.2.2.1 0, 320, .inl (fun _ => 0))) 320)).bind fun D9 =>
  (gPut D9 x 8 10 (.ref D8.2.1)).bind fun D10 =>
  (some (nx_al D10 (.inl (Γ.2.2.2.1 0, 5, .inl (fun _ => 0))) 5)).bind fun D11 =>
  (gPut D11 x 8 11 (.ref D10.2.1)).bind fun D12 =>
  (some (nx_al D12 (.inl (Γ.2.2.2.1 0, 820, .inl (fun _ => 0))) 820)).bind fun D13 =>
  (gPut D13 x 8 13 (.ref D12.2.1)).bind fun D14 =>
  (some (nx_al D14 (.inl (Γ.2.2.2.1 0, 4, .inl (fun _ => 0))) 4)).bind fun D15 =>
  (gPut D15 x 8 14 (.ref D14.2.1)).bind fun D16 =>
  (some (nx_al D16 (.inl (Γ.2.2.2.1 0, 37, .inl (fun _ => 0))) 37)).bind fun D17 =>
  (gPut D17 x 8 17 (.ref D16.2.1)).bind fun D18 =>
  (some (nx_al D18 (.inl (Γ.2.2.2.1 0, 32800, .inl (fun _ => 0))) 32800)).bind fun D19 =>
  (gPut D19 x 8 18 (.ref D18.2.1)).bind fun D20 =>
  (some (nx_al D20 (.inl (Γ.2.2.2.1 0, 20448, .inl (fun _ => 0))) 20448)).bind fun D21 =>
  (gPut D21 x 8 21 (.ref D20.2.1)).bind fun D22 =>
  (some (nx_al D22 (.inl (Γ.2.2.2.1 0, 8, .inl (fun _ => 0))) 8)).bind fun D23 =>
  (gPut D23 x 8 24 (.ref D22.2.1)).bind fun D24 =>
  (some (nx_al D24 (.inl (Γ.2.2.2.1 0, 820, .inl (fun _ => 0))) 820)).bind fun D25 =>
  (gPut D25 x 8 25 (.ref D24.2.1)).bind fun D26 =>
  some D26
set_option maxRecDepth 4000 in
theorem jM_init {Γ : nx_G} {M0 : Nat → Option va_E} (u : Nat) (D : nx_M) (x : Nat)   (X : nx_X) (Z : nx_Z) : nx_J Γ X (RX8, cX8_init, 1, none, "<init>", 1) Z (fun r0 : nx_M => .inr (none, (ov M0 r0))) (.inl (0, [some (.ref x)], [], (ov M0 D))) (fM_init u Γ D x) := by
  unfold fM_init
  refine nx_aload_n rfl dX8_init_0 rfl ?_
  refine nx_objInit wd_1143 wd_214 wd_215 (Nat.le_of_ble_eq_true rfl) (Nat.le_of_ble_eq_true rfl) dX8_init_1 rfl ?_
  refine nx_aload_n rfl dX8_init_4 rfl ?_
  refine nx_sipush (by decide +kernel) dX8_init_5 rfl ?_
  refine g_newI wd_241 (by decide +kernel) (by decide +kernel) (Nat.le_of_ble_eq_true rfl) dX8_init_8 rfl (fun D1 _ => ?_)
  refine g_putF fl_8_9 ft_8_1 ⟨TX8, 27, rfl⟩ rfl rfl rfl dX8_init_10 rfl (fun D2 => ?_)
  refine nx_aload_n rfl dX8_init_13 rfl ?_
  refine nx_iconst dX8_init_14 rfl ?_
  refine g_newI wd_241 (by decide +kernel) (by decide +kernel) (Nat.le_of_ble_eq_true rfl) dX8_init_15 rfl (fun D3 _ => ?_)
  refine g_putF fl_8_13 ft_8_5 ⟨TX8, 27, rfl⟩ rfl rfl rfl dX8_init_17 rfl (fun D4 => ?_)
  refine nx_aload_n rfl dX8_init_20 rfl ?_
  refine nx_bipush (by decide +kernel) dX8_init_21 rfl ?_
  refine g_newI wd_241 (by decide +kernel) (by decide +kernel) (Nat.le_of_ble_eq_true rfl) dX8_init_23 rfl (fun D5 _ => ?_)
  refine g_putF fl_8_16 ft_8_6 ⟨TX8, 27, rfl⟩ rfl rfl rfl dX8_init_25 rfl (fun D6 => ?_)
  refine nx_aload_n rfl dX8_init_28 rfl ?_
  refine nx_iconst dX8_init_29 rfl ?_
  refine g_newI wd_241 (by decide +kernel) (by decide +kernel) (Nat.le_of_ble_eq_true rfl) dX8_init_30 rfl (fun D7 _ => ?_)
  refine g_putF fl_8_19 ft_8_8 ⟨TX8, 27, rfl⟩ rfl rfl rfl dX8_init_32 rfl (fun D8 => ?_)
  refine nx_aload_n rfl dX8_init_35 rfl ?_
  refine nx_sipush (by decide +kernel) dX8_init_36 rfl ?_
  refine g_newI wd_241 (by decide +kernel) (by decide +kernel) (Nat.le_of_ble_eq_true rfl) dX8_init_39 rfl (fun D9 _ => ?_)
  refine g_putF fl_8_22 ft_8_10 ⟨TX8, 27, rfl⟩ rfl rfl rfl dX8_init_41 rfl (fun D10 => ?_)
  refine nx_aload_n rfl dX8_init_44 rfl ?_
  refine nx_iconst dX8_init_45 rfl ?_
  refine g_newI wd_241 (by decide +kernel) (by decide +kernel) (Nat.le_of_ble_eq_true rfl) dX8_init_46 rfl (fun D11 _ => ?_)
  refine g_putF fl_8_25 ft_8_11 ⟨TX8, 27, rfl⟩ rfl rfl rfl dX8_init_48 rfl (fun D12 => ?_)
  refine nx_aload_n rfl dX8_init_51 rfl ?_
  refine nx_sipush (by decide +kernel) dX8_init_52 rfl ?_
  refine g_newI wd_241 (by decide +kernel) (by decide +kernel) (Nat.le_of_ble_eq_true rfl) dX8_init_55 rfl (fun D13 _ => ?_)
  refine g_putF fl_8_28 ft_8_13 ⟨TX8, 27, rfl⟩ rfl rfl rfl dX8_init_57 rfl (fun D14 => ?_)
  refine nx_aload_n rfl dX8_init_60 rfl ?_
  refine nx_iconst dX8_init_61 rfl ?_
  refine g_newI wd_241 (by decide +kernel) (by decide +kernel) (Nat.le_of_ble_eq_true rfl) dX8_init_62 rfl (fun D15 _ => ?_)
  refine g_putF fl_8_31 ft_8_14 ⟨TX8, 27, rfl⟩ rfl rfl rfl dX8_init_64 rfl (fun D16 => ?_)
  refine nx_aload_n rfl dX8_init_67 rfl ?_
  refine nx_bipush (by decide +kernel) dX8_init_68 rfl ?_
  refine g_newI wd_241 (by decide +kernel) (by decide +kernel) (Nat.le_of_ble_eq_true rfl) dX8_init_70 rfl (fun D17 _ => ?_)
  refine g_putF fl_8_34 ft_8_17 ⟨TX8, 27, rfl⟩ rfl rfl rfl dX8_init_72 rfl (fun D18 => ?_)
  refine nx_aload_n rfl dX8_init_75 rfl ?_
  refine nx_ldc wd_1144 dX8_init_76 rfl ?_
  refine g_newI wd_241 (by decide +kernel) (by decide +kernel) (Nat.le_of_ble_eq_true rfl) dX8_init_78 rfl (fun D19 _ => ?_)
  refine g_putF fl_8_38 ft_8_18 ⟨TX8, 27, rfl⟩ rfl rfl rfl dX8_init_80 rfl (fun D20 => ?_)
  refine nx_aload_n rfl dX8_init_83 rfl ?_
  refine nx_sipush (by decide +kernel) dX8_init_84 rfl ?_
  refine g_newI wd_241 (by decide +kernel) (by decide +kernel) (Nat.le_of_ble_eq_true rfl) dX8_init_87 rfl (fun D21 _ => ?_)
  refine g_putF fl_8_41 ft_8_21 ⟨TX8, 27, rfl⟩ rfl rfl rfl dX8_init_89 rfl (fun D22 => ?_)
  refine nx_aload_n rfl dX8_init_92 rfl ?_
  refine nx_bipush (by decide +kernel) dX8_init_93 rfl ?_
  refine g_newI wd_241 (by decide +kernel) (by decide +kernel) (Nat.le_of_ble_eq_true rfl) dX8_init_95 rfl (fun D23 _ => ?_)
  refine g_putF fl_8_44 ft_8_24 ⟨TX8, 27, rfl⟩ rfl rfl rfl dX8_init_97 rfl (fun D24 => ?_)
  refine nx_aload_n rfl dX8_init_100 rfl ?_
  refine nx_sipush (by decide +kernel) dX8_init_101 rfl ?_
  refine g_newI wd_241 (by decide +kernel) (by decide +kernel) (Nat.le_of_ble_eq_true rfl) dX8_init_104 rfl (fun D25 _ => ?_)
  refine g_putF fl_8_47 ft_8_25 ⟨TX8, 27, rfl⟩ rfl rfl rfl dX8_init_106 rfl (fun D26 => ?_)
  exact nx_vret dX8_init_109 rfl rfl
theorem cM_init (l : Launch) {Γ : nx_G} {M0 : Nat → Option va_E} {u : Nat} {D : nx_M} {x : Nat} {r : nx_M}  (h : fM_init u Γ D x = some r) : nx_Ct l Γ 1 yX8_init cX8_init 1 none [.ref x] (ov M0 D) (none, (ov M0 r)) :=
  nx_ct (out := fun r0 : nx_M => (none, (ov M0 r0))) [some (.ref x)] pn_RX8 h (Nat.le_of_ble_eq_true rfl) rfl (fun X Z _ => jM_init  u D x X Z)
