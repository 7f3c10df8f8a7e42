/-! ===== LateStamps.seat, up to where it returns or is about to throw (false: at 27, true: at 52) ===== -/
theorem dX7_seat_0 : decode cX7_seat 0 = .ok (.aload_n 0, 1) := by decide +kernel
theorem dX7_seat_1 : decode cX7_seat 1 = .ok (.getfield 37, 3) := by decide +kernel
theorem dX7_seat_4 : decode cX7_seat 4 = .ok (.invokevirtual 110, 3) := by decide +kernel
theorem dX7_seat_7 : decode cX7_seat 7 = .ok (.ifCond .eq 20, 3) := by decide +kernel
theorem dX7_seat_10 : decode cX7_seat 10 = .ok (.iload_n 1, 1) := by decide +kernel
theorem dX7_seat_11 : decode cX7_seat 11 = .ok (.bipush 8, 2) := by decide +kernel
theorem dX7_seat_13 : decode cX7_seat 13 = .ok (.invokestatic 114, 3) := by decide +kernel
theorem dX7_seat_16 : decode cX7_seat 16 = .ok (.ifCond .eq 11, 3) := by decide +kernel
theorem dX7_seat_19 : decode cX7_seat 19 = .ok (.iload_n 2, 1) := by decide +kernel
theorem dX7_seat_20 : decode cX7_seat 20 = .ok (.iconst 5, 1) := by decide +kernel
theorem dX7_seat_21 : decode cX7_seat 21 = .ok (.invokestatic 114, 3) := by decide +kernel
theorem dX7_seat_24 : decode cX7_seat 24 = .ok (.ifCond .ne 13, 3) := by decide +kernel
theorem dX7_seat_37 : decode cX7_seat 37 = .ok (.iload_n 2, 1) := by decide +kernel
theorem dX7_seat_38 : decode cX7_seat 38 = .ok (.ifCond .eq 24, 3) := by decide +kernel
theorem dX7_seat_41 : decode cX7_seat 41 = .ok (.aload_n 0, 1) := by decide +kernel
theorem dX7_seat_42 : decode cX7_seat 42 = .ok (.getfield 37, 3) := by decide +kernel
theorem dX7_seat_45 : decode cX7_seat 45 = .ok (.iload_n 1, 1) := by decide +kernel
theorem dX7_seat_46 : decode cX7_seat 46 = .ok (.invokevirtual 128, 3) := by decide +kernel
theorem dX7_seat_49 : decode cX7_seat 49 = .ok (.ifCond .ne 13, 3) := by decide +kernel
theorem dX7_seat_62 : decode cX7_seat 62 = .ok (.aload_n 0, 1) := by decide +kernel
theorem dX7_seat_63 : decode cX7_seat 63 = .ok (.getfield 37, 3) := by decide +kernel
theorem dX7_seat_66 : decode cX7_seat 66 = .ok (.iload_n 1, 1) := by decide +kernel
theorem dX7_seat_67 : decode cX7_seat 67 = .ok (.iload_n 2, 1) := by decide +kernel
theorem dX7_seat_68 : decode cX7_seat 68 = .ok (.invokevirtual 133, 3) := by decide +kernel
theorem dX7_seat_71 : decode cX7_seat 71 = .ok (.ireturn, 1) := by decide +kernel
theorem wd_1137 : Cond.code yX6_partOf cX6_partOf 3 (some .int) ∈ nx_TB := nx_mem 1137 (by decide +kernel) (by decide +kernel)
theorem wd_1136 : Cond.instanceMethod yX6_partOf ∈ nx_TB := nx_mem 1136 (by decide +kernel) (by decide +kernel)
theorem wd_111p : Cond.selects yX6_partOf.cls yX6_partOf yX6_partOf ∈ nx_TB := nx_mem 111 (by decide +kernel) (by decide +kernel)
theorem cv_X6_partOf : nx_CV yX6_partOf 6 := ⟨wd_1136, wd_111p, TX6, 1, rfl⟩
theorem cw_7_133 : nx_CW RX7 133 yX6_partOf cX6_partOf 3 (some .int) 2 := ⟨wd_1137, wd_196, ⟨by decide +kernel, by decide +kernel⟩, by decide +kernel, Nat.le_of_ble_eq_true rfl, Or.inr ⟨"LateStamps", List.mem_of_getElem? (i := 943) (by decide +kernel)⟩⟩
def fC_seatP (u : Nat) (Γ : nx_G) (D : nx_M) (x : Nat) (a1 : Int32) (a2 : Int32) : Option (Int32 ⊕ Bool) :=
  (gR D x 7 5).bind fun q7 =>
  (wRd Γ D q7 (fun f => fW_partOf u f a1 a2)).bind fun x8 =>
  some (.inl x8)
def fC_seatX (u : Nat) (Γ : nx_G) (D : nx_M) (x : Nat) (a1 : Int32) (a2 : Int32) : Option (Int32 ⊕ Bool) :=
  (gR D x 7 5).bind fun q1 =>
  (wRd Γ D q1 (fun f => fW_hasStore u f)).bind fun b2 =>
  if b2 = true then
    (fL_within u a1 (iz 8)).bind fun b3 =>
    if b3 = true then
      (fL_within u a2 (iz 5)).bind fun b4 =>
      if b4 = true then
        if a2 = iz 0 then
          fC_seatP u Γ D x a1 a2
        else
          (gR D x 7 5).bind fun q5 =>
          (wRd Γ D q5 (fun f => fW_stateOf u f a1)).bind fun x6 =>
          if x6 = iz 0 then
            some (.inr true)
          else
            fC_seatP u Γ D x a1 a2
      else
        some (.inr false)
    else
      some (.inr false)
  else
    some (.inr false)
abbrev seC (M0 : Nat → Option va_E) (D : nx_M) (x : Nat) (a1 a2 : Int32) : Int32 ⊕ Bool → nx_C := Sum.elim (fun r0 => .inr (some (.int r0), (ov M0 D))) (fun b => .inl ((if b = true then 52 else 27), [some (.ref x), some (.int a1), some (.int a2)], [], (ov M0 D)))
theorem jC_seatP {Γ : nx_G} {M0 : Nat → Option va_E} (u : Nat) (D : nx_M) (x : Nat) (a1 : Int32) (a2 : Int32) (X : nx_X) (Z : nx_Z) : nx_J Γ X (RX7, cX7_seat, 3, (some .int), "seat", 8) Z (seC M0 D x a1 a2) (.inl (62, [some (.ref x), some (.int a1), some (.int a2)], [], (ov M0 D))) (fC_seatP u Γ D x a1 a2) := by
  unfold fC_seatP
  refine nx_aload_n rfl dX7_seat_62 rfl ?_
  refine g_getr (Or.inl fl_7_37) dX7_seat_63 rfl (fun q7 => ?_)
  refine nx_iload_n rfl dX7_seat_66 rfl ?_
  refine nx_iload_n rfl dX7_seat_67 rfl ?_
  refine g_callWr [.int a1, .int a2] (fun r => .int r) cw_7_133 cv_X6_partOf (fun M1 c f r hw hc e => cW_partOf X.2.1 hw hc e) rfl rfl (Nat.le_of_ble_eq_true rfl) (Nat.le_of_ble_eq_true rfl) dX7_seat_68 rfl (fun x8 => ?_)
  exact nx_iret dX7_seat_71 rfl rfl
theorem jC_seat {Γ : nx_G} {M0 : Nat → Option va_E} (u : Nat) (D : nx_M) (x : Nat) (a1 : Int32) (a2 : Int32) (X : nx_X) (Z : nx_Z) : nx_J Γ X (RX7, cX7_seat, 3, (some .int), "seat", 8) Z (seC M0 D x a1 a2) (.inl (0, [some (.ref x), some (.int a1), some (.int a2)], [], (ov M0 D))) (fC_seatX u Γ D x a1 a2) := by
  unfold fC_seatX
  refine nx_aload_n rfl dX7_seat_0 rfl ?_
  refine g_getr (Or.inl fl_7_37) dX7_seat_1 rfl (fun q1 => ?_)
  refine g_callWr [] (fun r => .int (bz r)) cw_7_110 cv_X6_hasStore (fun M1 c f r hw hc e => cW_hasStore X.2.1 hw hc e) rfl rfl (Nat.le_of_ble_eq_true rfl) (Nat.le_of_ble_eq_true rfl) dX7_seat_4 rfl (fun b2 => ?_)
  refine nx_ifz_eq (t := 27) dX7_seat_7 (by decide) rfl ?_ ?_
  · exact nx_leaf rfl
  · refine nx_iload_n rfl dX7_seat_10 rfl ?_
    refine nx_bipush (by decide +kernel) dX7_seat_11 rfl ?_
    refine nx_callSr [.int a1, .int (iz 8)] (fun r => .int (bz r)) (fun _ => (ov M0 D)) cw_7_114 wd_442 (fun r e => cL_within X.2.1  e) rfl rfl (Nat.le_of_ble_eq_true rfl) (Nat.le_of_ble_eq_true rfl) dX7_seat_13 rfl (fun b3 => ?_)
    refine nx_ifz_eq (t := 27) dX7_seat_16 (by decide) rfl ?_ ?_
    · exact nx_leaf rfl
    · refine nx_iload_n rfl dX7_seat_19 rfl ?_
      refine nx_iconst dX7_seat_20 rfl ?_
      refine nx_callSr [.int a2, .int (iz 5)] (fun r => .int (bz r)) (fun _ => (ov M0 D)) cw_7_114 wd_442 (fun r e => cL_within X.2.1  e) rfl rfl (Nat.le_of_ble_eq_true rfl) (Nat.le_of_ble_eq_true rfl) dX7_seat_21 rfl (fun b4 => ?_)
      refine nx_ifz_ne (t := 37) dX7_seat_24 (by decide) rfl ?_ ?_
      · refine nx_iload_n rfl dX7_seat_37 rfl ?_
        refine nx_if_eq (t := 62) dX7_seat_38 (by decide) rfl ?_ ?_
        · exact jC_seatP u D x a1 a2 X Z
        · refine nx_aload_n rfl dX7_seat_41 rfl ?_
          refine g_getr (Or.inl fl_7_37) dX7_seat_42 rfl (fun q5 => ?_)
          refine nx_iload_n rfl dX7_seat_45 rfl ?_
          refine g_callWr [.int a1] (fun r => .int r) cw_7_128 cv_X6_stateOf (fun M1 c f r hw hc e => cW_stateOf X.2.1 hw hc e) rfl rfl (Nat.le_of_ble_eq_true rfl) (Nat.le_of_ble_eq_true rfl) dX7_seat_46 rfl (fun x6 => ?_)
          refine nx_if_ne (t := 62) dX7_seat_49 (by decide) rfl ?_ ?_
          · exact jC_seatP u D x a1 a2 X Z
          · exact nx_leaf rfl
      · exact nx_leaf rfl
