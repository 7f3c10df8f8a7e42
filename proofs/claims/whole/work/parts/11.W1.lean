theorem dX6_keepHand_0 : decode cX6_keepHand 0 = .ok (.aload_n 0, 1) := by decide +kernel
theorem dX6_keepHand_1 : decode cX6_keepHand 1 = .ok (.getfield 11, 3) := by decide +kernel
theorem dX6_keepHand_4 : decode cX6_keepHand 4 = .ok (.bipush 7, 2) := by decide +kernel
theorem dX6_keepHand_6 : decode cX6_keepHand 6 = .ok (.iaload, 1) := by decide +kernel
theorem dX6_keepHand_7 : decode cX6_keepHand 7 = .ok (.istore_n 2, 1) := by decide +kernel
theorem dX6_keepHand_8 : decode cX6_keepHand 8 = .ok (.iload_n 2, 1) := by decide +kernel
theorem dX6_keepHand_9 : decode cX6_keepHand 9 = .ok (.bipush 30, 2) := by decide +kernel
theorem dX6_keepHand_11 : decode cX6_keepHand 11 = .ok (.invokestatic 33, 3) := by decide +kernel
theorem dX6_keepHand_14 : decode cX6_keepHand 14 = .ok (.ifCond .eq 23, 3) := by decide +kernel
theorem dX6_keepHand_17 : decode cX6_keepHand 17 = .ok (.aload_n 0, 1) := by decide +kernel
theorem dX6_keepHand_18 : decode cX6_keepHand 18 = .ok (.getfield 11, 3) := by decide +kernel
theorem dX6_keepHand_21 : decode cX6_keepHand 21 = .ok (.bipush 10, 2) := by decide +kernel
theorem dX6_keepHand_23 : decode cX6_keepHand 23 = .ok (.iload_n 2, 1) := by decide +kernel
theorem dX6_keepHand_24 : decode cX6_keepHand 24 = .ok (.iadd, 1) := by decide +kernel
theorem dX6_keepHand_25 : decode cX6_keepHand 25 = .ok (.iload_n 1, 1) := by decide +kernel
theorem dX6_keepHand_26 : decode cX6_keepHand 26 = .ok (.iastore, 1) := by decide +kernel
theorem dX6_keepHand_27 : decode cX6_keepHand 27 = .ok (.aload_n 0, 1) := by decide +kernel
theorem dX6_keepHand_28 : decode cX6_keepHand 28 = .ok (.getfield 11, 3) := by decide +kernel
theorem dX6_keepHand_31 : decode cX6_keepHand 31 = .ok (.bipush 7, 2) := by decide +kernel
theorem dX6_keepHand_33 : decode cX6_keepHand 33 = .ok (.iload_n 2, 1) := by decide +kernel
theorem dX6_keepHand_34 : decode cX6_keepHand 34 = .ok (.iconst 1, 1) := by decide +kernel
theorem dX6_keepHand_35 : decode cX6_keepHand 35 = .ok (.iadd, 1) := by decide +kernel
theorem dX6_keepHand_36 : decode cX6_keepHand 36 = .ok (.iastore, 1) := by decide +kernel
theorem dX6_keepHand_37 : decode cX6_keepHand 37 = .ok (.return_, 1) := by decide +kernel
def fW_keepHand (u : Nat) (f : (Nat → Int32)) (a1 : Int32) : Option ((Nat → Int32)) :=
  (nx_rd 514 f (iz 7)).bind fun x1 =>
  (fL_within u x1 (iz 30)).bind fun b2 =>
  if b2 = true then
    (nx_wr 514 f ((iz 10) + x1) a1).bind fun f3 =>
    (nx_wr 514 f3 (iz 7) (x1 + (iz 1))).bind fun f4 =>
    some f4
  else
    some f
set_option maxRecDepth 4000 in
theorem jW_keepHand {Γ : nx_G} {M0 : nx_M} {w c : Nat} (hw : M0.1 w = some (.inr (6, [.ref c]))) (hc : w ≠ c) (u : Nat) (f : (Nat → Int32)) (a1 : Int32)   (X : nx_X) (Z : nx_Z) : nx_J Γ X (RX6, cX6_keepHand, 3, none, "keepHand", 2) Z (fun r0 : (Nat → Int32) => .inr (none, (wW Γ M0 c r0))) (.inl (0, [some (.ref w), some (.int a1), none], [], (wW Γ M0 c f))) (fW_keepHand u f a1) := by
  unfold fW_keepHand
  refine nx_aload_n rfl dX6_keepHand_0 rfl ?_
  refine nx_getf fl_6_11 ((nx_put_ne hc).trans hw) rfl dX6_keepHand_1 rfl ?_
  refine nx_bipush (by decide +kernel) dX6_keepHand_4 rfl ?_
  refine nx_iald nx_put_self dX6_keepHand_6 rfl (fun x1 => ?_)
  refine nx_istore_n [some (.ref w), some (.int a1), some (.int x1)] dX6_keepHand_7 rfl (Nat.le_of_ble_eq_true rfl) rfl rfl ?_
  refine nx_iload_n rfl dX6_keepHand_8 rfl ?_
  refine nx_bipush (by decide +kernel) dX6_keepHand_9 rfl ?_
  refine nx_callSr [.int x1, .int (iz 30)] (fun r => .int (bz r)) (fun _ => (wW Γ M0 c f)) cw_6_33 wd_442 (fun r e => cL_within X.2.1  e) rfl rfl (Nat.le_of_ble_eq_true rfl) (Nat.le_of_ble_eq_true rfl) dX6_keepHand_11 rfl (fun b2 => ?_)
  refine nx_ifz_eq (t := 37) dX6_keepHand_14 (by decide) rfl ?_ ?_
  · exact nx_vret dX6_keepHand_37 rfl rfl
  · refine nx_aload_n rfl dX6_keepHand_17 rfl ?_
    refine nx_getf fl_6_11 ((nx_put_ne hc).trans hw) rfl dX6_keepHand_18 rfl ?_
    refine nx_bipush (by decide +kernel) dX6_keepHand_21 rfl ?_
    refine nx_iload_n rfl dX6_keepHand_23 rfl ?_
    refine nx_iadd dX6_keepHand_24 rfl ?_
    refine nx_iload_n rfl dX6_keepHand_25 rfl ?_
    refine w_iast dX6_keepHand_26 rfl (fun f3 => ?_)
    refine nx_aload_n rfl dX6_keepHand_27 rfl ?_
    refine nx_getf fl_6_11 ((nx_put_ne hc).trans hw) rfl dX6_keepHand_28 rfl ?_
    refine nx_bipush (by decide +kernel) dX6_keepHand_31 rfl ?_
    refine nx_iload_n rfl dX6_keepHand_33 rfl ?_
    refine nx_iconst dX6_keepHand_34 rfl ?_
    refine nx_iadd dX6_keepHand_35 rfl ?_
    refine w_iast dX6_keepHand_36 rfl (fun f4 => ?_)
    exact nx_vret dX6_keepHand_37 rfl rfl
theorem cW_keepHand (l : Launch) {Γ : nx_G} {M0 : nx_M} {w c : Nat} (hw : M0.1 w = some (.inr (6, [.ref c]))) (hc : w ≠ c) {u : Nat} {f : (Nat → Int32)} {a1 : Int32} {r : (Nat → Int32)}  (h : fW_keepHand u f a1 = some r) : nx_Ct l Γ 2 yX6_keepHand cX6_keepHand 3 none [.ref w, .int a1] (wW Γ M0 c f) (none, (wW Γ M0 c r)) :=
  nx_ct (out := fun r0 : (Nat → Int32) => (none, (wW Γ M0 c r0))) [some (.ref w), some (.int a1), none] pn_RX6 h (Nat.le_of_ble_eq_true rfl) rfl (fun X Z _ => jW_keepHand hw hc u f a1 X Z)
theorem dX6_keepDeed_0 : decode cX6_keepDeed 0 = .ok (.aload_n 0, 1) := by decide +kernel
theorem dX6_keepDeed_1 : decode cX6_keepDeed 1 = .ok (.getfield 11, 3) := by decide +kernel
theorem dX6_keepDeed_4 : decode cX6_keepDeed 4 = .ok (.bipush 80, 2) := by decide +kernel
theorem dX6_keepDeed_6 : decode cX6_keepDeed 6 = .ok (.iload_n 1, 1) := by decide +kernel
theorem dX6_keepDeed_7 : decode cX6_keepDeed 7 = .ok (.iadd, 1) := by decide +kernel
theorem dX6_keepDeed_8 : decode cX6_keepDeed 8 = .ok (.iaload, 1) := by decide +kernel
theorem dX6_keepDeed_9 : decode cX6_keepDeed 9 = .ok (.istore 5, 2) := by decide +kernel
theorem dX6_keepDeed_11 : decode cX6_keepDeed 11 = .ok (.iload 5, 2) := by decide +kernel
theorem dX6_keepDeed_13 : decode cX6_keepDeed 13 = .ok (.bipush 12, 2) := by decide +kernel
theorem dX6_keepDeed_15 : decode cX6_keepDeed 15 = .ok (.invokestatic 33, 3) := by decide +kernel
theorem dX6_keepDeed_18 : decode cX6_keepDeed 18 = .ok (.ifCond .eq 43, 3) := by decide +kernel
theorem dX6_keepDeed_21 : decode cX6_keepDeed 21 = .ok (.aload_n 0, 1) := by decide +kernel
theorem dX6_keepDeed_22 : decode cX6_keepDeed 22 = .ok (.getfield 11, 3) := by decide +kernel
theorem dX6_keepDeed_25 : decode cX6_keepDeed 25 = .ok (.bipush 88, 2) := by decide +kernel
theorem dX6_keepDeed_27 : decode cX6_keepDeed 27 = .ok (.iload_n 1, 1) := by decide +kernel
theorem dX6_keepDeed_28 : decode cX6_keepDeed 28 = .ok (.bipush 12, 2) := by decide +kernel
theorem dX6_keepDeed_30 : decode cX6_keepDeed 30 = .ok (.imul, 1) := by decide +kernel
theorem dX6_keepDeed_31 : decode cX6_keepDeed 31 = .ok (.iadd, 1) := by decide +kernel
theorem dX6_keepDeed_32 : decode cX6_keepDeed 32 = .ok (.iload 5, 2) := by decide +kernel
theorem dX6_keepDeed_34 : decode cX6_keepDeed 34 = .ok (.iadd, 1) := by decide +kernel
theorem dX6_keepDeed_35 : decode cX6_keepDeed 35 = .ok (.iload_n 2, 1) := by decide +kernel
theorem dX6_keepDeed_36 : decode cX6_keepDeed 36 = .ok (.iload_n 3, 1) := by decide +kernel
theorem dX6_keepDeed_37 : decode cX6_keepDeed 37 = .ok (.iconst 2, 1) := by decide +kernel
theorem dX6_keepDeed_38 : decode cX6_keepDeed 38 = .ok (.ishl, 1) := by decide +kernel
theorem dX6_keepDeed_39 : decode cX6_keepDeed 39 = .ok (.ior, 1) := by decide +kernel
theorem dX6_keepDeed_40 : decode cX6_keepDeed 40 = .ok (.iload 4, 2) := by decide +kernel
theorem dX6_keepDeed_42 : decode cX6_keepDeed 42 = .ok (.iconst 1, 1) := by decide +kernel
theorem dX6_keepDeed_43 : decode cX6_keepDeed 43 = .ok (.iadd, 1) := by decide +kernel
theorem dX6_keepDeed_44 : decode cX6_keepDeed 44 = .ok (.iconst 5, 1) := by decide +kernel
theorem dX6_keepDeed_45 : decode cX6_keepDeed 45 = .ok (.ishl, 1) := by decide +kernel
theorem dX6_keepDeed_46 : decode cX6_keepDeed 46 = .ok (.ior, 1) := by decide +kernel
theorem dX6_keepDeed_47 : decode cX6_keepDeed 47 = .ok (.iastore, 1) := by decide +kernel
theorem dX6_keepDeed_48 : decode cX6_keepDeed 48 = .ok (.aload_n 0, 1) := by decide +kernel
theorem dX6_keepDeed_49 : decode cX6_keepDeed 49 = .ok (.getfield 11, 3) := by decide +kernel
theorem dX6_keepDeed_52 : decode cX6_keepDeed 52 = .ok (.bipush 80, 2) := by decide +kernel
theorem dX6_keepDeed_54 : decode cX6_keepDeed 54 = .ok (.iload_n 1, 1) := by decide +kernel
theorem dX6_keepDeed_55 : decode cX6_keepDeed 55 = .ok (.iadd, 1) := by decide +kernel
theorem dX6_keepDeed_56 : decode cX6_keepDeed 56 = .ok (.iload 5, 2) := by decide +kernel
theorem dX6_keepDeed_58 : decode cX6_keepDeed 58 = .ok (.iconst 1, 1) := by decide +kernel
theorem dX6_keepDeed_59 : decode cX6_keepDeed 59 = .ok (.iadd, 1) := by decide +kernel
theorem dX6_keepDeed_60 : decode cX6_keepDeed 60 = .ok (.iastore, 1) := by decide +kernel
theorem dX6_keepDeed_61 : decode cX6_keepDeed 61 = .ok (.return_, 1) := by decide +kernel
def fW_keepDeed (u : Nat) (f : (Nat → Int32)) (a1 : Int32) (a2 : Int32) (a3 : Int32) (a4 : Int32) : Option ((Nat → Int32)) :=
  (nx_rd 514 f ((iz 80) + a1)).bind fun x1 =>
  (fL_within u x1 (iz 12)).bind fun b2 =>
  if b2 = true then
    (nx_wr 514 f (((iz 88) + (a1 * (iz 12))) + x1) ((a2 ||| (a3 <<< ((iz 2) &&& 31))) ||| ((a4 + (iz 1)) <<< ((iz 5) &&& 31)))).bind fun f3 =>
    (nx_wr 514 f3 ((iz 80) + a1) (x1 + (iz 1))).bind fun f4 =>
    some f4
  else
    some f
set_option maxRecDepth 4000 in
theorem jW_keepDeed {Γ : nx_G} {M0 : nx_M} {w c : Nat} (hw : M0.1 w = some (.inr (6, [.ref c]))) (hc : w ≠ c) (u : Nat) (f : (Nat → Int32)) (a1 : Int32) (a2 : Int32) (a3 : Int32) (a4 : Int32)   (X : nx_X) (Z : nx_Z) : nx_J Γ X (RX6, cX6_keepDeed, 6, none, "keepDeed", 2) Z (fun r0 : (Nat → Int32) => .inr (none, (wW Γ M0 c r0))) (.inl (0, [some (.ref w), some (.int a1), some (.int a2), some (.int a3), some (.int a4), none], [], (wW Γ M0 c f))) (fW_keepDeed u f a1 a2 a3 a4) := by
  unfold fW_keepDeed
  refine nx_aload_n rfl dX6_keepDeed_0 rfl ?_
  refine nx_getf fl_6_11 ((nx_put_ne hc).trans hw) rfl dX6_keepDeed_1 rfl ?_
  refine nx_bipush (by decide +kernel) dX6_keepDeed_4 rfl ?_
  refine nx_iload_n rfl dX6_keepDeed_6 rfl ?_
  refine nx_iadd dX6_keepDeed_7 rfl ?_
  refine nx_iald nx_put_self dX6_keepDeed_8 rfl (fun x1 => ?_)
  refine nx_istore [some (.ref w), some (.int a1), some (.int a2), some (.int a3), some (.int a4), some (.int x1)] dX6_keepDeed_9 rfl (Nat.le_of_ble_eq_true rfl) rfl rfl ?_
  refine nx_iload rfl dX6_keepDeed_11 rfl ?_
  refine nx_bipush (by decide +kernel) dX6_keepDeed_13 rfl ?_
  refine nx_callSr [.int x1, .int (iz 12)] (fun r => .int (bz r)) (fun _ => (wW Γ M0 c f)) cw_6_33 wd_442 (fun r e => cL_within X.2.1  e) rfl rfl (Nat.le_of_ble_eq_true rfl) (Nat.le_of_ble_eq_true rfl) dX6_keepDeed_15 rfl (fun b2 => ?_)
  refine nx_ifz_eq (t := 61) dX6_keepDeed_18 (by decide) rfl ?_ ?_
  · exact nx_vret dX6_keepDeed_61 rfl rfl
  · refine nx_aload_n rfl dX6_keepDeed_21 rfl ?_
    refine nx_getf fl_6_11 ((nx_put_ne hc).trans hw) rfl dX6_keepDeed_22 rfl ?_
    refine nx_bipush (by decide +kernel) dX6_keepDeed_25 rfl ?_
    refine nx_iload_n rfl dX6_keepDeed_27 rfl ?_
    refine nx_bipush (by decide +kernel) dX6_keepDeed_28 rfl ?_
    refine nx_imul dX6_keepDeed_30 rfl ?_
    refine nx_iadd dX6_keepDeed_31 rfl ?_
    refine nx_iload rfl dX6_keepDeed_32 rfl ?_
    refine nx_iadd dX6_keepDeed_34 rfl ?_
    refine nx_iload_n rfl dX6_keepDeed_35 rfl ?_
    refine nx_iload_n rfl dX6_keepDeed_36 rfl ?_
    refine nx_iconst dX6_keepDeed_37 rfl ?_
    refine nx_ishl dX6_keepDeed_38 rfl ?_
    refine nx_ior dX6_keepDeed_39 rfl ?_
    refine nx_iload rfl dX6_keepDeed_40 rfl ?_
    refine nx_iconst dX6_keepDeed_42 rfl ?_
    refine nx_iadd dX6_keepDeed_43 rfl ?_
    refine nx_iconst dX6_keepDeed_44 rfl ?_
    refine nx_ishl dX6_keepDeed_45 rfl ?_
    refine nx_ior dX6_keepDeed_46 rfl ?_
    refine w_iast dX6_keepDeed_47 rfl (fun f3 => ?_)
    refine nx_aload_n rfl dX6_keepDeed_48 rfl ?_
    refine nx_getf fl_6_11 ((nx_put_ne hc).trans hw) rfl dX6_keepDeed_49 rfl ?_
    refine nx_bipush (by decide +kernel) dX6_keepDeed_52 rfl ?_
    refine nx_iload_n rfl dX6_keepDeed_54 rfl ?_
    refine nx_iadd dX6_keepDeed_55 rfl ?_
    refine nx_iload rfl dX6_keepDeed_56 rfl ?_
    refine nx_iconst dX6_keepDeed_58 rfl ?_
    refine nx_iadd dX6_keepDeed_59 rfl ?_
    refine w_iast dX6_keepDeed_60 rfl (fun f4 => ?_)
    exact nx_vret dX6_keepDeed_61 rfl rfl
theorem cW_keepDeed (l : Launch) {Γ : nx_G} {M0 : nx_M} {w c : Nat} (hw : M0.1 w = some (.inr (6, [.ref c]))) (hc : w ≠ c) {u : Nat} {f : (Nat → Int32)} {a1 : Int32} {a2 : Int32} {a3 : Int32} {a4 : Int32} {r : (Nat → Int32)}  (h : fW_keepDeed u f a1 a2 a3 a4 = some r) : nx_Ct l Γ 2 yX6_keepDeed cX6_keepDeed 6 none [.ref w, .int a1, .int a2, .int a3, .int a4] (wW Γ M0 c f) (none, (wW Γ M0 c r)) :=
  nx_ct (out := fun r0 : (Nat → Int32) => (none, (wW Γ M0 c r0))) [some (.ref w), some (.int a1), some (.int a2), some (.int a3), some (.int a4), none] pn_RX6 h (Nat.le_of_ble_eq_true rfl) rfl (fun X Z _ => jW_keepDeed hw hc u f a1 a2 a3 a4 X Z)
theorem dX6_slotToRead_0 : decode cX6_slotToRead 0 = .ok (.iload_n 2, 1) := by decide +kernel
theorem dX6_slotToRead_1 : decode cX6_slotToRead 1 = .ok (.bipush 9, 2) := by decide +kernel
theorem dX6_slotToRead_3 : decode cX6_slotToRead 3 = .ok (.imul, 1) := by decide +kernel
theorem dX6_slotToRead_4 : decode cX6_slotToRead 4 = .ok (.istore_n 3, 1) := by decide +kernel
theorem dX6_slotToRead_5 : decode cX6_slotToRead 5 = .ok (.aload_n 0, 1) := by decide +kernel
theorem dX6_slotToRead_6 : decode cX6_slotToRead 6 = .ok (.getfield 11, 3) := by decide +kernel
theorem dX6_slotToRead_9 : decode cX6_slotToRead 9 = .ok (.sipush 232, 3) := by decide +kernel
theorem dX6_slotToRead_12 : decode cX6_slotToRead 12 = .ok (.iload_n 2, 1) := by decide +kernel
theorem dX6_slotToRead_13 : decode cX6_slotToRead 13 = .ok (.iadd, 1) := by decide +kernel
theorem dX6_slotToRead_14 : decode cX6_slotToRead 14 = .ok (.iaload, 1) := by decide +kernel
theorem dX6_slotToRead_15 : decode cX6_slotToRead 15 = .ok (.bipush 9, 2) := by decide +kernel
theorem dX6_slotToRead_17 : decode cX6_slotToRead 17 = .ok (.invokestatic 124, 3) := by decide +kernel
theorem dX6_slotToRead_20 : decode cX6_slotToRead 20 = .ok (.iconst 1, 1) := by decide +kernel
theorem dX6_slotToRead_21 : decode cX6_slotToRead 21 = .ok (.isub, 1) := by decide +kernel
theorem dX6_slotToRead_22 : decode cX6_slotToRead 22 = .ok (.istore 4, 2) := by decide +kernel
theorem dX6_slotToRead_24 : decode cX6_slotToRead 24 = .ok (.iload 4, 2) := by decide +kernel
theorem dX6_slotToRead_26 : decode cX6_slotToRead 26 = .ok (.ifCond .lt 91, 3) := by decide +kernel
theorem dX6_slotToRead_29 : decode cX6_slotToRead 29 = .ok (.iload_n 3, 1) := by decide +kernel
theorem dX6_slotToRead_30 : decode cX6_slotToRead 30 = .ok (.iload 4, 2) := by decide +kernel
theorem dX6_slotToRead_32 : decode cX6_slotToRead 32 = .ok (.iadd, 1) := by decide +kernel
theorem dX6_slotToRead_33 : decode cX6_slotToRead 33 = .ok (.istore 5, 2) := by decide +kernel
theorem dX6_slotToRead_35 : decode cX6_slotToRead 35 = .ok (.aload_n 0, 1) := by decide +kernel
theorem dX6_slotToRead_36 : decode cX6_slotToRead 36 = .ok (.getfield 11, 3) := by decide +kernel
theorem dX6_slotToRead_39 : decode cX6_slotToRead 39 = .ok (.sipush 400, 3) := by decide +kernel
theorem dX6_slotToRead_42 : decode cX6_slotToRead 42 = .ok (.iload 5, 2) := by decide +kernel
theorem dX6_slotToRead_44 : decode cX6_slotToRead 44 = .ok (.iadd, 1) := by decide +kernel
theorem dX6_slotToRead_45 : decode cX6_slotToRead 45 = .ok (.iaload, 1) := by decide +kernel
theorem dX6_slotToRead_46 : decode cX6_slotToRead 46 = .ok (.istore 6, 2) := by decide +kernel
theorem dX6_slotToRead_48 : decode cX6_slotToRead 48 = .ok (.iload 6, 2) := by decide +kernel
theorem dX6_slotToRead_50 : decode cX6_slotToRead 50 = .ok (.iconst (-1), 1) := by decide +kernel
theorem dX6_slotToRead_51 : decode cX6_slotToRead 51 = .ok (.if_icmp .eq 22, 3) := by decide +kernel
theorem dX6_slotToRead_54 : decode cX6_slotToRead 54 = .ok (.iload 6, 2) := by decide +kernel
theorem dX6_slotToRead_56 : decode cX6_slotToRead 56 = .ok (.iload_n 1, 1) := by decide +kernel
theorem dX6_slotToRead_57 : decode cX6_slotToRead 57 = .ok (.if_icmp .eq 16, 3) := by decide +kernel
theorem dX6_slotToRead_60 : decode cX6_slotToRead 60 = .ok (.aload_n 0, 1) := by decide +kernel
theorem dX6_slotToRead_61 : decode cX6_slotToRead 61 = .ok (.getfield 11, 3) := by decide +kernel
theorem dX6_slotToRead_64 : decode cX6_slotToRead 64 = .ok (.bipush 56, 2) := by decide +kernel
theorem dX6_slotToRead_66 : decode cX6_slotToRead 66 = .ok (.iload_n 1, 1) := by decide +kernel
theorem dX6_slotToRead_67 : decode cX6_slotToRead 67 = .ok (.iadd, 1) := by decide +kernel
theorem dX6_slotToRead_68 : decode cX6_slotToRead 68 = .ok (.iaload, 1) := by decide +kernel
theorem dX6_slotToRead_69 : decode cX6_slotToRead 69 = .ok (.iconst 1, 1) := by decide +kernel
theorem dX6_slotToRead_70 : decode cX6_slotToRead 70 = .ok (.if_icmp .ne 7, 3) := by decide +kernel
theorem dX6_slotToRead_73 : decode cX6_slotToRead 73 = .ok (.iconst 1, 1) := by decide +kernel
theorem dX6_slotToRead_74 : decode cX6_slotToRead 74 = .ok (.goto 4, 3) := by decide +kernel
theorem dX6_slotToRead_77 : decode cX6_slotToRead 77 = .ok (.iconst 0, 1) := by decide +kernel
theorem dX6_slotToRead_78 : decode cX6_slotToRead 78 = .ok (.istore 7, 2) := by decide +kernel
theorem dX6_slotToRead_80 : decode cX6_slotToRead 80 = .ok (.iload 7, 2) := by decide +kernel
theorem dX6_slotToRead_82 : decode cX6_slotToRead 82 = .ok (.ifCond .eq 29, 3) := by decide +kernel
theorem dX6_slotToRead_85 : decode cX6_slotToRead 85 = .ok (.aload_n 0, 1) := by decide +kernel
theorem dX6_slotToRead_86 : decode cX6_slotToRead 86 = .ok (.getfield 11, 3) := by decide +kernel
theorem dX6_slotToRead_89 : decode cX6_slotToRead 89 = .ok (.sipush 238, 3) := by decide +kernel
theorem dX6_slotToRead_92 : decode cX6_slotToRead 92 = .ok (.iload 5, 2) := by decide +kernel
theorem dX6_slotToRead_94 : decode cX6_slotToRead 94 = .ok (.iadd, 1) := by decide +kernel
theorem dX6_slotToRead_95 : decode cX6_slotToRead 95 = .ok (.iaload, 1) := by decide +kernel
theorem dX6_slotToRead_96 : decode cX6_slotToRead 96 = .ok (.aload_n 0, 1) := by decide +kernel
theorem dX6_slotToRead_97 : decode cX6_slotToRead 97 = .ok (.getfield 11, 3) := by decide +kernel
theorem dX6_slotToRead_100 : decode cX6_slotToRead 100 = .ok (.bipush 48, 2) := by decide +kernel
theorem dX6_slotToRead_102 : decode cX6_slotToRead 102 = .ok (.iload_n 1, 1) := by decide +kernel
theorem dX6_slotToRead_103 : decode cX6_slotToRead 103 = .ok (.iadd, 1) := by decide +kernel
theorem dX6_slotToRead_104 : decode cX6_slotToRead 104 = .ok (.iaload, 1) := by decide +kernel
theorem dX6_slotToRead_105 : decode cX6_slotToRead 105 = .ok (.if_icmp .gt 6, 3) := by decide +kernel
theorem dX6_slotToRead_108 : decode cX6_slotToRead 108 = .ok (.iload 5, 2) := by decide +kernel
theorem dX6_slotToRead_110 : decode cX6_slotToRead 110 = .ok (.ireturn, 1) := by decide +kernel
theorem dX6_slotToRead_111 : decode cX6_slotToRead 111 = .ok (.iinc 4 (-1), 3) := by decide +kernel
theorem dX6_slotToRead_114 : decode cX6_slotToRead 114 = .ok (.goto (-90), 3) := by decide +kernel
theorem dX6_slotToRead_117 : decode cX6_slotToRead 117 = .ok (.iconst (-1), 1) := by decide +kernel
theorem dX6_slotToRead_118 : decode cX6_slotToRead 118 = .ok (.ireturn, 1) := by decide +kernel
def fW_slotToRead_24 (f : (Nat → Int32)) (a1 : Int32) (a2 : Int32) (s2 : Int32) : Option ((Int32) ⊕ ((Unit) ⊕ (Int32))) :=
  if s2 < iz 0 then
    some (.inr (.inl ()))
  else
    (nx_rd 514 f ((iz 400) + ((a2 * (iz 9)) + s2))).bind fun x3 =>
    (if x3 = (iz (-1)) then
       some (iz 1)
     else
       if x3 = a1 then
         some (iz 1)
       else
         (nx_rd 514 f ((iz 56) + a1)).bind fun x4 =>
         if x4 = (iz 1) then
           some (iz 1)
         else
           some (iz 0) : Option (Int32)).bind fun s5 =>
    if s5 = iz 0 then
      some (.inl (s2 + iz (-1)))
    else
      (nx_rd 514 f ((iz 238) + ((a2 * (iz 9)) + s2))).bind fun x6 =>
      (nx_rd 514 f ((iz 48) + a1)).bind fun x7 =>
      if x7 < x6 then
        some (.inl (s2 + iz (-1)))
      else
        some (.inr (.inr ((a2 * (iz 9)) + s2)))
def fW_slotToRead (u : Nat) (f : (Nat → Int32)) (a1 : Int32) (a2 : Int32) : Option (Int32) :=
  (nx_rd 514 f ((iz 232) + a2)).bind fun x1 =>
  (nx_iter u (fW_slotToRead_24 f a1 a2) ((if (iz 9) < x1 then (iz 9) else x1) - (iz 1))).bind (Sum.elim (fun e8 =>
    some (iz (-1)))
    (fun r0 => some r0))
set_option maxRecDepth 4000 in
theorem jW_slotToRead_24 {Γ : nx_G} {M0 : nx_M} {w c : Nat} (hw : M0.1 w = some (.inr (6, [.ref c]))) (hc : w ≠ c) (f : (Nat → Int32)) (a1 : Int32) (a2 : Int32)   (X : nx_X) (Z : nx_Z) (s2 : Int32) : nx_J Γ X (RX6, cX6_slotToRead, 8, (some .int), "slotToRead", 1) Z (Sum.elim (fun s2 : Int32 => .inl (24, [some (.ref w), some (.int a1), some (.int a2), some (.int (a2 * (iz 9))), some (.int s2), none, none, none], [], (wW Γ M0 c f))) (Sum.elim (fun e8 : Unit => .inl (117, [some (.ref w), some (.int a1), some (.int a2), some (.int (a2 * (iz 9))), none, none, none, none], [], (wW Γ M0 c f))) (fun r0 : Int32 => .inr (some (.int r0), (wW Γ M0 c f))))) (.inl (24, [some (.ref w), some (.int a1), some (.int a2), some (.int (a2 * (iz 9))), some (.int s2), none, none, none], [], (wW Γ M0 c f))) (fW_slotToRead_24 f a1 a2 s2) := by
  unfold fW_slotToRead_24
  refine nx_iload rfl dX6_slotToRead_24 rfl ?_
  refine nx_if_lt (t := 117) dX6_slotToRead_26 (by decide) rfl ?_ ?_
  · refine nx_weak (ls' := [some (.ref w), some (.int a1), some (.int a2), some (.int (a2 * (iz 9))), none, none, none, none]) (nx_wk_s (nx_wk_s (nx_wk_s (nx_wk_s (nx_wk_n (nx_wk_n (nx_wk_n (nx_wk_n nx_wk_e)))))))) ?_
    exact nx_leaf rfl
  · refine nx_iload_n rfl dX6_slotToRead_29 rfl ?_
    refine nx_iload rfl dX6_slotToRead_30 rfl ?_
    refine nx_iadd dX6_slotToRead_32 rfl ?_
    refine nx_istore [some (.ref w), some (.int a1), some (.int a2), some (.int (a2 * (iz 9))), some (.int s2), some (.int ((a2 * (iz 9)) + s2)), none, none] dX6_slotToRead_33 rfl (Nat.le_of_ble_eq_true rfl) rfl rfl ?_
    refine nx_aload_n rfl dX6_slotToRead_35 rfl ?_
    refine nx_getf fl_6_11 ((nx_put_ne hc).trans hw) rfl dX6_slotToRead_36 rfl ?_
    refine nx_sipush (by decide +kernel) dX6_slotToRead_39 rfl ?_
    refine nx_iload rfl dX6_slotToRead_42 rfl ?_
    refine nx_iadd dX6_slotToRead_44 rfl ?_
    refine nx_iald nx_put_self dX6_slotToRead_45 rfl (fun x3 => ?_)
    refine nx_istore [some (.ref w), some (.int a1), some (.int a2), some (.int (a2 * (iz 9))), some (.int s2), some (.int ((a2 * (iz 9)) + s2)), some (.int x3), none] dX6_slotToRead_46 rfl (Nat.le_of_ble_eq_true rfl) rfl rfl ?_
    refine nx_iload rfl dX6_slotToRead_48 rfl ?_
    refine nx_iconst dX6_slotToRead_50 rfl ?_
    refine nx_seq (C1 := fun s5 : Int32 => .inl (78, [some (.ref w), some (.int a1), some (.int a2), some (.int (a2 * (iz 9))), some (.int s2), some (.int ((a2 * (iz 9)) + s2)), some (.int x3), none], [.int s5], (wW Γ M0 c f))) ?_ (fun s5 => ?_)
    · refine nx_icmp_eq (t := 73) dX6_slotToRead_51 (by decide) rfl ?_ ?_
      · refine nx_iconst dX6_slotToRead_73 rfl ?_
        refine nx_goto (q := 78) dX6_slotToRead_74 (by decide) ?_
        exact nx_leaf rfl
      · refine nx_iload rfl dX6_slotToRead_54 rfl ?_
        refine nx_iload_n rfl dX6_slotToRead_56 rfl ?_
        refine nx_icmp_eq (t := 73) dX6_slotToRead_57 (by decide) rfl ?_ ?_
        · refine nx_iconst dX6_slotToRead_73 rfl ?_
          refine nx_goto (q := 78) dX6_slotToRead_74 (by decide) ?_
          exact nx_leaf rfl
        · refine nx_aload_n rfl dX6_slotToRead_60 rfl ?_
          refine nx_getf fl_6_11 ((nx_put_ne hc).trans hw) rfl dX6_slotToRead_61 rfl ?_
          refine nx_bipush (by decide +kernel) dX6_slotToRead_64 rfl ?_
          refine nx_iload_n rfl dX6_slotToRead_66 rfl ?_
          refine nx_iadd dX6_slotToRead_67 rfl ?_
          refine nx_iald nx_put_self dX6_slotToRead_68 rfl (fun x4 => ?_)
          refine nx_iconst dX6_slotToRead_69 rfl ?_
          refine nx_icmp_ne (t := 77) dX6_slotToRead_70 (by decide) rfl ?_ ?_
          · refine nx_iconst dX6_slotToRead_77 rfl ?_
            exact nx_leaf rfl
          · refine nx_iconst dX6_slotToRead_73 rfl ?_
            refine nx_goto (q := 78) dX6_slotToRead_74 (by decide) ?_
            exact nx_leaf rfl
    refine nx_istore [some (.ref w), some (.int a1), some (.int a2), some (.int (a2 * (iz 9))), some (.int s2), some (.int ((a2 * (iz 9)) + s2)), some (.int x3), some (.int s5)] dX6_slotToRead_78 rfl (Nat.le_of_ble_eq_true rfl) rfl rfl ?_
    refine nx_iload rfl dX6_slotToRead_80 rfl ?_
    refine nx_if_eq (t := 111) dX6_slotToRead_82 (by decide) rfl ?_ ?_
    · refine nx_iinc [some (.ref w), some (.int a1), some (.int a2), some (.int (a2 * (iz 9))), some (.int (s2 + iz (-1))), some (.int ((a2 * (iz 9)) + s2)), some (.int x3), some (.int s5)] dX6_slotToRead_111 rfl rfl (Nat.le_of_ble_eq_true rfl) rfl rfl ?_
      refine nx_goto (q := 24) dX6_slotToRead_114 (by decide) ?_
      refine nx_weak (ls' := [some (.ref w), some (.int a1), some (.int a2), some (.int (a2 * (iz 9))), some (.int (s2 + iz (-1))), none, none, none]) (nx_wk_s (nx_wk_s (nx_wk_s (nx_wk_s (nx_wk_s (nx_wk_n (nx_wk_n (nx_wk_n nx_wk_e)))))))) ?_
      exact nx_leaf rfl
    · refine nx_aload_n rfl dX6_slotToRead_85 rfl ?_
      refine nx_getf fl_6_11 ((nx_put_ne hc).trans hw) rfl dX6_slotToRead_86 rfl ?_
      refine nx_sipush (by decide +kernel) dX6_slotToRead_89 rfl ?_
      refine nx_iload rfl dX6_slotToRead_92 rfl ?_
      refine nx_iadd dX6_slotToRead_94 rfl ?_
      refine nx_iald nx_put_self dX6_slotToRead_95 rfl (fun x6 => ?_)
      refine nx_aload_n rfl dX6_slotToRead_96 rfl ?_
      refine nx_getf fl_6_11 ((nx_put_ne hc).trans hw) rfl dX6_slotToRead_97 rfl ?_
      refine nx_bipush (by decide +kernel) dX6_slotToRead_100 rfl ?_
      refine nx_iload_n rfl dX6_slotToRead_102 rfl ?_
      refine nx_iadd dX6_slotToRead_103 rfl ?_
      refine nx_iald nx_put_self dX6_slotToRead_104 rfl (fun x7 => ?_)
      refine nx_icmp_gt (t := 111) dX6_slotToRead_105 (by decide) rfl ?_ ?_
      · refine nx_iinc [some (.ref w), some (.int a1), some (.int a2), some (.int (a2 * (iz 9))), some (.int (s2 + iz (-1))), some (.int ((a2 * (iz 9)) + s2)), some (.int x3), some (.int s5)] dX6_slotToRead_111 rfl rfl (Nat.le_of_ble_eq_true rfl) rfl rfl ?_
        refine nx_goto (q := 24) dX6_slotToRead_114 (by decide) ?_
        refine nx_weak (ls' := [some (.ref w), some (.int a1), some (.int a2), some (.int (a2 * (iz 9))), some (.int (s2 + iz (-1))), none, none, none]) (nx_wk_s (nx_wk_s (nx_wk_s (nx_wk_s (nx_wk_s (nx_wk_n (nx_wk_n (nx_wk_n nx_wk_e)))))))) ?_
        exact nx_leaf rfl
      · refine nx_iload rfl dX6_slotToRead_108 rfl ?_
        exact nx_iret dX6_slotToRead_110 rfl rfl
set_option maxRecDepth 4000 in
theorem jW_slotToRead {Γ : nx_G} {M0 : nx_M} {w c : Nat} (hw : M0.1 w = some (.inr (6, [.ref c]))) (hc : w ≠ c) (u : Nat) (f : (Nat → Int32)) (a1 : Int32) (a2 : Int32)   (X : nx_X) (Z : nx_Z) : nx_J Γ X (RX6, cX6_slotToRead, 8, (some .int), "slotToRead", 1) Z (fun r0 : Int32 => .inr (some (.int r0), (wW Γ M0 c f))) (.inl (0, [some (.ref w), some (.int a1), some (.int a2), none, none, none, none, none], [], (wW Γ M0 c f))) (fW_slotToRead u f a1 a2) := by
  unfold fW_slotToRead
  refine nx_iload_n rfl dX6_slotToRead_0 rfl ?_
  refine nx_bipush (by decide +kernel) dX6_slotToRead_1 rfl ?_
  refine nx_imul dX6_slotToRead_3 rfl ?_
  refine nx_istore_n [some (.ref w), some (.int a1), some (.int a2), some (.int (a2 * (iz 9))), none, none, none, none] dX6_slotToRead_4 rfl (Nat.le_of_ble_eq_true rfl) rfl rfl ?_
  refine nx_aload_n rfl dX6_slotToRead_5 rfl ?_
  refine nx_getf fl_6_11 ((nx_put_ne hc).trans hw) rfl dX6_slotToRead_6 rfl ?_
  refine nx_sipush (by decide +kernel) dX6_slotToRead_9 rfl ?_
  refine nx_iload_n rfl dX6_slotToRead_12 rfl ?_
  refine nx_iadd dX6_slotToRead_13 rfl ?_
  refine nx_iald nx_put_self dX6_slotToRead_14 rfl (fun x1 => ?_)
  refine nx_bipush (by decide +kernel) dX6_slotToRead_15 rfl ?_
  refine nx_min wd_663 wd_645 wd_206 wd_646 (Nat.le_of_ble_eq_true rfl) (Nat.le_of_ble_eq_true rfl) dX6_slotToRead_17 rfl ?_
  refine nx_iconst dX6_slotToRead_20 rfl ?_
  refine nx_isub dX6_slotToRead_21 rfl ?_
  refine nx_istore [some (.ref w), some (.int a1), some (.int a2), some (.int (a2 * (iz 9))), some (.int ((if (iz 9) < x1 then (iz 9) else x1) - (iz 1))), none, none, none] dX6_slotToRead_22 rfl (Nat.le_of_ble_eq_true rfl) rfl rfl ?_
  refine nx_seqS (Ca := fun e8 : Unit => .inl (117, [some (.ref w), some (.int a1), some (.int a2), some (.int (a2 * (iz 9))), none, none, none, none], [], (wW Γ M0 c f))) (Cb := fun r0 : Int32 => .inr (some (.int r0), (wW Γ M0 c f))) (nx_loop (C1 := fun s2 : Int32 => .inl (24, [some (.ref w), some (.int a1), some (.int a2), some (.int (a2 * (iz 9))), some (.int s2), none, none, none], [], (wW Γ M0 c f))) (fun s2 => jW_slotToRead_24 hw hc f a1 a2 X Z s2) ((if (iz 9) < x1 then (iz 9) else x1) - (iz 1))) (fun e8 => ?_) (fun r0 => ?_)
  · refine nx_iconst dX6_slotToRead_117 rfl ?_
    exact nx_iret dX6_slotToRead_118 rfl rfl
  · exact nx_leaf rfl
theorem cW_slotToRead (l : Launch) {Γ : nx_G} {M0 : nx_M} {w c : Nat} (hw : M0.1 w = some (.inr (6, [.ref c]))) (hc : w ≠ c) {u : Nat} {f : (Nat → Int32)} {a1 : Int32} {a2 : Int32} {r : Int32}  (h : fW_slotToRead u f a1 a2 = some r) : nx_Ct l Γ 1 yX6_slotToRead cX6_slotToRead 8 (some .int) [.ref w, .int a1, .int a2] (wW Γ M0 c f) (some (.int r), (wW Γ M0 c f)) :=
  nx_ct (out := fun r0 : Int32 => (some (.int r0), (wW Γ M0 c f))) [some (.ref w), some (.int a1), some (.int a2), none, none, none, none, none] pn_RX6 h (Nat.le_of_ble_eq_true rfl) rfl (fun X Z _ => jW_slotToRead hw hc u f a1 a2 X Z)
theorem dX6_doomBetween_0 : decode cX6_doomBetween 0 = .ok (.iload_n 1, 1) := by decide +kernel
theorem dX6_doomBetween_1 : decode cX6_doomBetween 1 = .ok (.bipush 9, 2) := by decide +kernel
theorem dX6_doomBetween_3 : decode cX6_doomBetween 3 = .ok (.imul, 1) := by decide +kernel
theorem dX6_doomBetween_4 : decode cX6_doomBetween 4 = .ok (.istore 4, 2) := by decide +kernel
theorem dX6_doomBetween_6 : decode cX6_doomBetween 6 = .ok (.iconst 0, 1) := by decide +kernel
theorem dX6_doomBetween_7 : decode cX6_doomBetween 7 = .ok (.istore 5, 2) := by decide +kernel
theorem dX6_doomBetween_9 : decode cX6_doomBetween 9 = .ok (.iload 5, 2) := by decide +kernel
theorem dX6_doomBetween_11 : decode cX6_doomBetween 11 = .ok (.bipush 9, 2) := by decide +kernel
theorem dX6_doomBetween_13 : decode cX6_doomBetween 13 = .ok (.if_icmp .ge 91, 3) := by decide +kernel
theorem dX6_doomBetween_16 : decode cX6_doomBetween 16 = .ok (.iload 5, 2) := by decide +kernel
theorem dX6_doomBetween_18 : decode cX6_doomBetween 18 = .ok (.aload_n 0, 1) := by decide +kernel
theorem dX6_doomBetween_19 : decode cX6_doomBetween 19 = .ok (.getfield 11, 3) := by decide +kernel
theorem dX6_doomBetween_22 : decode cX6_doomBetween 22 = .ok (.sipush 232, 3) := by decide +kernel
theorem dX6_doomBetween_25 : decode cX6_doomBetween 25 = .ok (.iload_n 1, 1) := by decide +kernel
theorem dX6_doomBetween_26 : decode cX6_doomBetween 26 = .ok (.iadd, 1) := by decide +kernel
theorem dX6_doomBetween_27 : decode cX6_doomBetween 27 = .ok (.iaload, 1) := by decide +kernel
theorem dX6_doomBetween_28 : decode cX6_doomBetween 28 = .ok (.if_icmp .ge 76, 3) := by decide +kernel
theorem dX6_doomBetween_31 : decode cX6_doomBetween 31 = .ok (.aload_n 0, 1) := by decide +kernel
theorem dX6_doomBetween_32 : decode cX6_doomBetween 32 = .ok (.getfield 11, 3) := by decide +kernel
theorem dX6_doomBetween_35 : decode cX6_doomBetween 35 = .ok (.sipush 238, 3) := by decide +kernel
theorem dX6_doomBetween_38 : decode cX6_doomBetween 38 = .ok (.iload 4, 2) := by decide +kernel
theorem dX6_doomBetween_40 : decode cX6_doomBetween 40 = .ok (.iadd, 1) := by decide +kernel
theorem dX6_doomBetween_41 : decode cX6_doomBetween 41 = .ok (.iload 5, 2) := by decide +kernel
theorem dX6_doomBetween_43 : decode cX6_doomBetween 43 = .ok (.iadd, 1) := by decide +kernel
theorem dX6_doomBetween_44 : decode cX6_doomBetween 44 = .ok (.iaload, 1) := by decide +kernel
theorem dX6_doomBetween_45 : decode cX6_doomBetween 45 = .ok (.istore 6, 2) := by decide +kernel
theorem dX6_doomBetween_47 : decode cX6_doomBetween 47 = .ok (.aload_n 0, 1) := by decide +kernel
theorem dX6_doomBetween_48 : decode cX6_doomBetween 48 = .ok (.getfield 11, 3) := by decide +kernel
theorem dX6_doomBetween_51 : decode cX6_doomBetween 51 = .ok (.sipush 400, 3) := by decide +kernel
theorem dX6_doomBetween_54 : decode cX6_doomBetween 54 = .ok (.iload 4, 2) := by decide +kernel
theorem dX6_doomBetween_56 : decode cX6_doomBetween 56 = .ok (.iadd, 1) := by decide +kernel
theorem dX6_doomBetween_57 : decode cX6_doomBetween 57 = .ok (.iload 5, 2) := by decide +kernel
theorem dX6_doomBetween_59 : decode cX6_doomBetween 59 = .ok (.iadd, 1) := by decide +kernel
theorem dX6_doomBetween_60 : decode cX6_doomBetween 60 = .ok (.iaload, 1) := by decide +kernel
theorem dX6_doomBetween_61 : decode cX6_doomBetween 61 = .ok (.istore 7, 2) := by decide +kernel
theorem dX6_doomBetween_63 : decode cX6_doomBetween 63 = .ok (.iload 6, 2) := by decide +kernel
theorem dX6_doomBetween_65 : decode cX6_doomBetween 65 = .ok (.iload_n 2, 1) := by decide +kernel
theorem dX6_doomBetween_66 : decode cX6_doomBetween 66 = .ok (.if_icmp .le 32, 3) := by decide +kernel
theorem dX6_doomBetween_69 : decode cX6_doomBetween 69 = .ok (.iload 6, 2) := by decide +kernel
theorem dX6_doomBetween_71 : decode cX6_doomBetween 71 = .ok (.iload_n 3, 1) := by decide +kernel
theorem dX6_doomBetween_72 : decode cX6_doomBetween 72 = .ok (.if_icmp .ge 26, 3) := by decide +kernel
theorem dX6_doomBetween_75 : decode cX6_doomBetween 75 = .ok (.iload 7, 2) := by decide +kernel
theorem dX6_doomBetween_77 : decode cX6_doomBetween 77 = .ok (.ifCond .lt 21, 3) := by decide +kernel
theorem dX6_doomBetween_80 : decode cX6_doomBetween 80 = .ok (.iload 7, 2) := by decide +kernel
theorem dX6_doomBetween_82 : decode cX6_doomBetween 82 = .ok (.bipush 8, 2) := by decide +kernel
theorem dX6_doomBetween_84 : decode cX6_doomBetween 84 = .ok (.if_icmp .ge 14, 3) := by decide +kernel
theorem dX6_doomBetween_87 : decode cX6_doomBetween 87 = .ok (.aload_n 0, 1) := by decide +kernel
theorem dX6_doomBetween_88 : decode cX6_doomBetween 88 = .ok (.getfield 11, 3) := by decide +kernel
theorem dX6_doomBetween_91 : decode cX6_doomBetween 91 = .ok (.bipush 72, 2) := by decide +kernel
theorem dX6_doomBetween_93 : decode cX6_doomBetween 93 = .ok (.iload 7, 2) := by decide +kernel
theorem dX6_doomBetween_95 : decode cX6_doomBetween 95 = .ok (.iadd, 1) := by decide +kernel
theorem dX6_doomBetween_96 : decode cX6_doomBetween 96 = .ok (.iconst 1, 1) := by decide +kernel
theorem dX6_doomBetween_97 : decode cX6_doomBetween 97 = .ok (.iastore, 1) := by decide +kernel
theorem dX6_doomBetween_98 : decode cX6_doomBetween 98 = .ok (.iinc 5 1, 3) := by decide +kernel
theorem dX6_doomBetween_101 : decode cX6_doomBetween 101 = .ok (.goto (-92), 3) := by decide +kernel
theorem dX6_doomBetween_104 : decode cX6_doomBetween 104 = .ok (.return_, 1) := by decide +kernel
def fW_doomBetween_9 (a1 : Int32) (a2 : Int32) (a3 : Int32) (s1 : Int32 × (Nat → Int32)) : Option ((Int32 × (Nat → Int32)) ⊕ ((Nat → Int32))) :=
  if (iz 9) ≤ s1.1 then
    some (.inr s1.2)
  else
    (nx_rd 514 s1.2 ((iz 232) + a1)).bind fun x2 =>
    if x2 ≤ s1.1 then
      some (.inr s1.2)
    else
      (nx_rd 514 s1.2 (((iz 238) + (a1 * (iz 9))) + s1.1)).bind fun x3 =>
      (nx_rd 514 s1.2 (((iz 400) + (a1 * (iz 9))) + s1.1)).bind fun x4 =>
      (if x3 ≤ a2 then
         some s1.2
       else
         if a3 ≤ x3 then
           some s1.2
         else
           if x4 < iz 0 then
             some s1.2
           else
             if (iz 8) ≤ x4 then
               some s1.2
             else
               (nx_wr 514 s1.2 ((iz 72) + x4) (iz 1)).bind fun f5 =>
               some f5 : Option ((Nat → Int32))).bind fun s6 =>
      some (.inl ((s1.1 + iz 1), s6))
def fW_doomBetween (u : Nat) (f : (Nat → Int32)) (a1 : Int32) (a2 : Int32) (a3 : Int32) : Option ((Nat → Int32)) :=
  (nx_iter u (fW_doomBetween_9 a1 a2 a3) ((iz 0), f)).bind fun e7 =>
  some e7
set_option maxRecDepth 4000 in
theorem jW_doomBetween_9 {Γ : nx_G} {M0 : nx_M} {w c : Nat} (hw : M0.1 w = some (.inr (6, [.ref c]))) (hc : w ≠ c) (a1 : Int32) (a2 : Int32) (a3 : Int32)   (X : nx_X) (Z : nx_Z) (s1 : Int32 × (Nat → Int32)) : nx_J Γ X (RX6, cX6_doomBetween, 8, none, "doomBetween", 1) Z (Sum.elim (fun s1 : Int32 × (Nat → Int32) => .inl (9, [some (.ref w), some (.int a1), some (.int a2), some (.int a3), some (.int (a1 * (iz 9))), some (.int s1.1), none, none], [], (wW Γ M0 c s1.2))) (fun e7 : (Nat → Int32) => .inl (104, [some (.ref w), some (.int a1), some (.int a2), some (.int a3), some (.int (a1 * (iz 9))), none, none, none], [], (wW Γ M0 c e7)))) (.inl (9, [some (.ref w), some (.int a1), some (.int a2), some (.int a3), some (.int (a1 * (iz 9))), some (.int s1.1), none, none], [], (wW Γ M0 c s1.2))) (fW_doomBetween_9 a1 a2 a3 s1) := by
  unfold fW_doomBetween_9
  refine nx_iload rfl dX6_doomBetween_9 rfl ?_
  refine nx_bipush (by decide +kernel) dX6_doomBetween_11 rfl ?_
  refine nx_icmp_ge (t := 104) dX6_doomBetween_13 (by decide) rfl ?_ ?_
  · refine nx_weak (ls' := [some (.ref w), some (.int a1), some (.int a2), some (.int a3), some (.int (a1 * (iz 9))), none, none, none]) (nx_wk_s (nx_wk_s (nx_wk_s (nx_wk_s (nx_wk_s (nx_wk_n (nx_wk_n (nx_wk_n nx_wk_e)))))))) ?_
    obtain ⟨_, _⟩ := s1
    exact nx_leaf rfl
  · refine nx_iload rfl dX6_doomBetween_16 rfl ?_
    refine nx_aload_n rfl dX6_doomBetween_18 rfl ?_
    refine nx_getf fl_6_11 ((nx_put_ne hc).trans hw) rfl dX6_doomBetween_19 rfl ?_
    refine nx_sipush (by decide +kernel) dX6_doomBetween_22 rfl ?_
    refine nx_iload_n rfl dX6_doomBetween_25 rfl ?_
    refine nx_iadd dX6_doomBetween_26 rfl ?_
    refine nx_iald nx_put_self dX6_doomBetween_27 rfl (fun x2 => ?_)
    refine nx_icmp_ge (t := 104) dX6_doomBetween_28 (by decide) rfl ?_ ?_
    · refine nx_weak (ls' := [some (.ref w), some (.int a1), some (.int a2), some (.int a3), some (.int (a1 * (iz 9))), none, none, none]) (nx_wk_s (nx_wk_s (nx_wk_s (nx_wk_s (nx_wk_s (nx_wk_n (nx_wk_n (nx_wk_n nx_wk_e)))))))) ?_
      obtain ⟨_, _⟩ := s1
      exact nx_leaf rfl
    · refine nx_aload_n rfl dX6_doomBetween_31 rfl ?_
      refine nx_getf fl_6_11 ((nx_put_ne hc).trans hw) rfl dX6_doomBetween_32 rfl ?_
      refine nx_sipush (by decide +kernel) dX6_doomBetween_35 rfl ?_
      refine nx_iload rfl dX6_doomBetween_38 rfl ?_
      refine nx_iadd dX6_doomBetween_40 rfl ?_
      refine nx_iload rfl dX6_doomBetween_41 rfl ?_
      refine nx_iadd dX6_doomBetween_43 rfl ?_
      refine nx_iald nx_put_self dX6_doomBetween_44 rfl (fun x3 => ?_)
      refine nx_istore [some (.ref w), some (.int a1), some (.int a2), some (.int a3), some (.int (a1 * (iz 9))), some (.int s1.1), some (.int x3), none] dX6_doomBetween_45 rfl (Nat.le_of_ble_eq_true rfl) rfl rfl ?_
      refine nx_aload_n rfl dX6_doomBetween_47 rfl ?_
      refine nx_getf fl_6_11 ((nx_put_ne hc).trans hw) rfl dX6_doomBetween_48 rfl ?_
      refine nx_sipush (by decide +kernel) dX6_doomBetween_51 rfl ?_
      refine nx_iload rfl dX6_doomBetween_54 rfl ?_
      refine nx_iadd dX6_doomBetween_56 rfl ?_
      refine nx_iload rfl dX6_doomBetween_57 rfl ?_
      refine nx_iadd dX6_doomBetween_59 rfl ?_
      refine nx_iald nx_put_self dX6_doomBetween_60 rfl (fun x4 => ?_)
      refine nx_istore [some (.ref w), some (.int a1), some (.int a2), some (.int a3), some (.int (a1 * (iz 9))), some (.int s1.1), some (.int x3), some (.int x4)] dX6_doomBetween_61 rfl (Nat.le_of_ble_eq_true rfl) rfl rfl ?_
      refine nx_iload rfl dX6_doomBetween_63 rfl ?_
      refine nx_iload_n rfl dX6_doomBetween_65 rfl ?_
      refine nx_seq (C1 := fun s6 : (Nat → Int32) => .inl (98, [some (.ref w), some (.int a1), some (.int a2), some (.int a3), some (.int (a1 * (iz 9))), some (.int s1.1), some (.int x3), some (.int x4)], [], (wW Γ M0 c s6))) ?_ (fun s6 => ?_)
      · refine nx_icmp_le (t := 98) dX6_doomBetween_66 (by decide) rfl ?_ ?_
        · obtain ⟨_, _⟩ := s1
          exact nx_leaf rfl
        · refine nx_iload rfl dX6_doomBetween_69 rfl ?_
          refine nx_iload_n rfl dX6_doomBetween_71 rfl ?_
          refine nx_icmp_ge (t := 98) dX6_doomBetween_72 (by decide) rfl ?_ ?_
          · obtain ⟨_, _⟩ := s1
            exact nx_leaf rfl
          · refine nx_iload rfl dX6_doomBetween_75 rfl ?_
            refine nx_if_lt (t := 98) dX6_doomBetween_77 (by decide) rfl ?_ ?_
            · obtain ⟨_, _⟩ := s1
              exact nx_leaf rfl
            · refine nx_iload rfl dX6_doomBetween_80 rfl ?_
              refine nx_bipush (by decide +kernel) dX6_doomBetween_82 rfl ?_
              refine nx_icmp_ge (t := 98) dX6_doomBetween_84 (by decide) rfl ?_ ?_
              · obtain ⟨_, _⟩ := s1
                exact nx_leaf rfl
              · refine nx_aload_n rfl dX6_doomBetween_87 rfl ?_
                refine nx_getf fl_6_11 ((nx_put_ne hc).trans hw) rfl dX6_doomBetween_88 rfl ?_
                refine nx_bipush (by decide +kernel) dX6_doomBetween_91 rfl ?_
                refine nx_iload rfl dX6_doomBetween_93 rfl ?_
                refine nx_iadd dX6_doomBetween_95 rfl ?_
                refine nx_iconst dX6_doomBetween_96 rfl ?_
                refine w_iast dX6_doomBetween_97 rfl (fun f5 => ?_)
                obtain ⟨_, _⟩ := s1
                exact nx_leaf rfl
      refine nx_iinc [some (.ref w), some (.int a1), some (.int a2), some (.int a3), some (.int (a1 * (iz 9))), some (.int (s1.1 + iz 1)), some (.int x3), some (.int x4)] dX6_doomBetween_98 rfl rfl (Nat.le_of_ble_eq_true rfl) rfl rfl ?_
      refine nx_goto (q := 9) dX6_doomBetween_101 (by decide) ?_
      refine nx_weak (ls' := [some (.ref w), some (.int a1), some (.int a2), some (.int a3), some (.int (a1 * (iz 9))), some (.int (s1.1 + iz 1)), none, none]) (nx_wk_s (nx_wk_s (nx_wk_s (nx_wk_s (nx_wk_s (nx_wk_s (nx_wk_n (nx_wk_n nx_wk_e)))))))) ?_
      obtain ⟨_, _⟩ := s1
      exact nx_leaf rfl
set_option maxRecDepth 4000 in
theorem jW_doomBetween {Γ : nx_G} {M0 : nx_M} {w c : Nat} (hw : M0.1 w = some (.inr (6, [.ref c]))) (hc : w ≠ c) (u : Nat) (f : (Nat → Int32)) (a1 : Int32) (a2 : Int32) (a3 : Int32)   (X : nx_X) (Z : nx_Z) : nx_J Γ X (RX6, cX6_doomBetween, 8, none, "doomBetween", 1) Z (fun r0 : (Nat → Int32) => .inr (none, (wW Γ M0 c r0))) (.inl (0, [some (.ref w), some (.int a1), some (.int a2), some (.int a3), none, none, none, none], [], (wW Γ M0 c f))) (fW_doomBetween u f a1 a2 a3) := by
  unfold fW_doomBetween
  refine nx_iload_n rfl dX6_doomBetween_0 rfl ?_
  refine nx_bipush (by decide +kernel) dX6_doomBetween_1 rfl ?_
  refine nx_imul dX6_doomBetween_3 rfl ?_
  refine nx_istore [some (.ref w), some (.int a1), some (.int a2), some (.int a3), some (.int (a1 * (iz 9))), none, none, none] dX6_doomBetween_4 rfl (Nat.le_of_ble_eq_true rfl) rfl rfl ?_
  refine nx_iconst dX6_doomBetween_6 rfl ?_
  refine nx_istore [some (.ref w), some (.int a1), some (.int a2), some (.int a3), some (.int (a1 * (iz 9))), some (.int (iz 0)), none, none] dX6_doomBetween_7 rfl (Nat.le_of_ble_eq_true rfl) rfl rfl ?_
  refine nx_seq (C1 := fun e7 : (Nat → Int32) => .inl (104, [some (.ref w), some (.int a1), some (.int a2), some (.int a3), some (.int (a1 * (iz 9))), none, none, none], [], (wW Γ M0 c e7))) (nx_loop (C1 := fun s1 : Int32 × (Nat → Int32) => .inl (9, [some (.ref w), some (.int a1), some (.int a2), some (.int a3), some (.int (a1 * (iz 9))), some (.int s1.1), none, none], [], (wW Γ M0 c s1.2))) (fun s1 => jW_doomBetween_9 hw hc a1 a2 a3 X Z s1) ((iz 0), f)) (fun e7 => ?_)
  exact nx_vret dX6_doomBetween_104 rfl rfl
theorem cW_doomBetween (l : Launch) {Γ : nx_G} {M0 : nx_M} {w c : Nat} (hw : M0.1 w = some (.inr (6, [.ref c]))) (hc : w ≠ c) {u : Nat} {f : (Nat → Int32)} {a1 : Int32} {a2 : Int32} {a3 : Int32} {r : (Nat → Int32)}  (h : fW_doomBetween u f a1 a2 a3 = some r) : nx_Ct l Γ 1 yX6_doomBetween cX6_doomBetween 8 none [.ref w, .int a1, .int a2, .int a3] (wW Γ M0 c f) (none, (wW Γ M0 c r)) :=
  nx_ct (out := fun r0 : (Nat → Int32) => (none, (wW Γ M0 c r0))) [some (.ref w), some (.int a1), some (.int a2), some (.int a3), none, none, none, none] pn_RX6 h (Nat.le_of_ble_eq_true rfl) rfl (fun X Z _ => jW_doomBetween hw hc u f a1 a2 a3 X Z)
theorem dX6_leaveStamp_0 : decode cX6_leaveStamp 0 = .ok (.aload_n 0, 1) := by decide +kernel
theorem dX6_leaveStamp_1 : decode cX6_leaveStamp 1 = .ok (.getfield 11, 3) := by decide +kernel
theorem dX6_leaveStamp_4 : decode cX6_leaveStamp 4 = .ok (.bipush 48, 2) := by decide +kernel
theorem dX6_leaveStamp_6 : decode cX6_leaveStamp 6 = .ok (.iload_n 1, 1) := by decide +kernel
theorem dX6_leaveStamp_7 : decode cX6_leaveStamp 7 = .ok (.iadd, 1) := by decide +kernel
theorem dX6_leaveStamp_8 : decode cX6_leaveStamp 8 = .ok (.iaload, 1) := by decide +kernel
theorem dX6_leaveStamp_9 : decode cX6_leaveStamp 9 = .ok (.istore 4, 2) := by decide +kernel
theorem dX6_leaveStamp_11 : decode cX6_leaveStamp 11 = .ok (.aload_n 0, 1) := by decide +kernel
theorem dX6_leaveStamp_12 : decode cX6_leaveStamp 12 = .ok (.getfield 11, 3) := by decide +kernel
theorem dX6_leaveStamp_15 : decode cX6_leaveStamp 15 = .ok (.sipush 400, 3) := by decide +kernel
theorem dX6_leaveStamp_18 : decode cX6_leaveStamp 18 = .ok (.iload_n 3, 1) := by decide +kernel
theorem dX6_leaveStamp_19 : decode cX6_leaveStamp 19 = .ok (.iadd, 1) := by decide +kernel
theorem dX6_leaveStamp_20 : decode cX6_leaveStamp 20 = .ok (.iaload, 1) := by decide +kernel
theorem dX6_leaveStamp_21 : decode cX6_leaveStamp 21 = .ok (.istore 5, 2) := by decide +kernel
theorem dX6_leaveStamp_23 : decode cX6_leaveStamp 23 = .ok (.aload_n 0, 1) := by decide +kernel
theorem dX6_leaveStamp_24 : decode cX6_leaveStamp 24 = .ok (.getfield 11, 3) := by decide +kernel
theorem dX6_leaveStamp_27 : decode cX6_leaveStamp 27 = .ok (.sipush 346, 3) := by decide +kernel
theorem dX6_leaveStamp_30 : decode cX6_leaveStamp 30 = .ok (.iload_n 3, 1) := by decide +kernel
theorem dX6_leaveStamp_31 : decode cX6_leaveStamp 31 = .ok (.iadd, 1) := by decide +kernel
theorem dX6_leaveStamp_32 : decode cX6_leaveStamp 32 = .ok (.aload_n 0, 1) := by decide +kernel
theorem dX6_leaveStamp_33 : decode cX6_leaveStamp 33 = .ok (.getfield 11, 3) := by decide +kernel
theorem dX6_leaveStamp_36 : decode cX6_leaveStamp 36 = .ok (.sipush 346, 3) := by decide +kernel
theorem dX6_leaveStamp_39 : decode cX6_leaveStamp 39 = .ok (.iload_n 3, 1) := by decide +kernel
theorem dX6_leaveStamp_40 : decode cX6_leaveStamp 40 = .ok (.iadd, 1) := by decide +kernel
theorem dX6_leaveStamp_41 : decode cX6_leaveStamp 41 = .ok (.iaload, 1) := by decide +kernel
theorem dX6_leaveStamp_42 : decode cX6_leaveStamp 42 = .ok (.iload 4, 2) := by decide +kernel
theorem dX6_leaveStamp_44 : decode cX6_leaveStamp 44 = .ok (.invokestatic 129, 3) := by decide +kernel
theorem dX6_leaveStamp_47 : decode cX6_leaveStamp 47 = .ok (.iastore, 1) := by decide +kernel
theorem dX6_leaveStamp_48 : decode cX6_leaveStamp 48 = .ok (.aload_n 0, 1) := by decide +kernel
theorem dX6_leaveStamp_49 : decode cX6_leaveStamp 49 = .ok (.getfield 11, 3) := by decide +kernel
theorem dX6_leaveStamp_52 : decode cX6_leaveStamp 52 = .ok (.sipush 184, 3) := by decide +kernel
theorem dX6_leaveStamp_55 : decode cX6_leaveStamp 55 = .ok (.iload_n 1, 1) := by decide +kernel
theorem dX6_leaveStamp_56 : decode cX6_leaveStamp 56 = .ok (.bipush 6, 2) := by decide +kernel
theorem dX6_leaveStamp_58 : decode cX6_leaveStamp 58 = .ok (.imul, 1) := by decide +kernel
theorem dX6_leaveStamp_59 : decode cX6_leaveStamp 59 = .ok (.iadd, 1) := by decide +kernel
theorem dX6_leaveStamp_60 : decode cX6_leaveStamp 60 = .ok (.iload_n 2, 1) := by decide +kernel
theorem dX6_leaveStamp_61 : decode cX6_leaveStamp 61 = .ok (.iadd, 1) := by decide +kernel
theorem dX6_leaveStamp_62 : decode cX6_leaveStamp 62 = .ok (.aload_n 0, 1) := by decide +kernel
theorem dX6_leaveStamp_63 : decode cX6_leaveStamp 63 = .ok (.getfield 11, 3) := by decide +kernel
theorem dX6_leaveStamp_66 : decode cX6_leaveStamp 66 = .ok (.sipush 238, 3) := by decide +kernel
theorem dX6_leaveStamp_69 : decode cX6_leaveStamp 69 = .ok (.iload_n 3, 1) := by decide +kernel
theorem dX6_leaveStamp_70 : decode cX6_leaveStamp 70 = .ok (.iadd, 1) := by decide +kernel
theorem dX6_leaveStamp_71 : decode cX6_leaveStamp 71 = .ok (.iaload, 1) := by decide +kernel
theorem dX6_leaveStamp_72 : decode cX6_leaveStamp 72 = .ok (.iastore, 1) := by decide +kernel
theorem dX6_leaveStamp_73 : decode cX6_leaveStamp 73 = .ok (.aload_n 0, 1) := by decide +kernel
theorem dX6_leaveStamp_74 : decode cX6_leaveStamp 74 = .ok (.getfield 11, 3) := by decide +kernel
theorem dX6_leaveStamp_77 : decode cX6_leaveStamp 77 = .ok (.bipush 56, 2) := by decide +kernel
theorem dX6_leaveStamp_79 : decode cX6_leaveStamp 79 = .ok (.iload_n 1, 1) := by decide +kernel
theorem dX6_leaveStamp_80 : decode cX6_leaveStamp 80 = .ok (.iadd, 1) := by decide +kernel
theorem dX6_leaveStamp_81 : decode cX6_leaveStamp 81 = .ok (.iaload, 1) := by decide +kernel
theorem dX6_leaveStamp_82 : decode cX6_leaveStamp 82 = .ok (.ifCond .ne 23, 3) := by decide +kernel
theorem dX6_leaveStamp_85 : decode cX6_leaveStamp 85 = .ok (.aload_n 0, 1) := by decide +kernel
theorem dX6_leaveStamp_86 : decode cX6_leaveStamp 86 = .ok (.iload_n 2, 1) := by decide +kernel
theorem dX6_leaveStamp_87 : decode cX6_leaveStamp 87 = .ok (.aload_n 0, 1) := by decide +kernel
theorem dX6_leaveStamp_88 : decode cX6_leaveStamp 88 = .ok (.getfield 11, 3) := by decide +kernel
theorem dX6_leaveStamp_91 : decode cX6_leaveStamp 91 = .ok (.sipush 238, 3) := by decide +kernel
theorem dX6_leaveStamp_94 : decode cX6_leaveStamp 94 = .ok (.iload_n 3, 1) := by decide +kernel
theorem dX6_leaveStamp_95 : decode cX6_leaveStamp 95 = .ok (.iadd, 1) := by decide +kernel
theorem dX6_leaveStamp_96 : decode cX6_leaveStamp 96 = .ok (.iaload, 1) := by decide +kernel
theorem dX6_leaveStamp_97 : decode cX6_leaveStamp 97 = .ok (.iload 4, 2) := by decide +kernel
theorem dX6_leaveStamp_99 : decode cX6_leaveStamp 99 = .ok (.invokevirtual 132, 3) := by decide +kernel
theorem dX6_leaveStamp_102 : decode cX6_leaveStamp 102 = .ok (.goto 25, 3) := by decide +kernel
theorem dX6_leaveStamp_105 : decode cX6_leaveStamp 105 = .ok (.iload 5, 2) := by decide +kernel
theorem dX6_leaveStamp_107 : decode cX6_leaveStamp 107 = .ok (.iconst (-1), 1) := by decide +kernel
theorem dX6_leaveStamp_108 : decode cX6_leaveStamp 108 = .ok (.if_icmp .eq 19, 3) := by decide +kernel
theorem dX6_leaveStamp_111 : decode cX6_leaveStamp 111 = .ok (.aload_n 0, 1) := by decide +kernel
theorem dX6_leaveStamp_112 : decode cX6_leaveStamp 112 = .ok (.getfield 11, 3) := by decide +kernel
theorem dX6_leaveStamp_115 : decode cX6_leaveStamp 115 = .ok (.bipush 64, 2) := by decide +kernel
theorem dX6_leaveStamp_117 : decode cX6_leaveStamp 117 = .ok (.iload_n 1, 1) := by decide +kernel
theorem dX6_leaveStamp_118 : decode cX6_leaveStamp 118 = .ok (.iadd, 1) := by decide +kernel
theorem dX6_leaveStamp_119 : decode cX6_leaveStamp 119 = .ok (.dup2, 1) := by decide +kernel
theorem dX6_leaveStamp_120 : decode cX6_leaveStamp 120 = .ok (.iaload, 1) := by decide +kernel
theorem dX6_leaveStamp_121 : decode cX6_leaveStamp 121 = .ok (.iconst 1, 1) := by decide +kernel
theorem dX6_leaveStamp_122 : decode cX6_leaveStamp 122 = .ok (.iload 5, 2) := by decide +kernel
theorem dX6_leaveStamp_124 : decode cX6_leaveStamp 124 = .ok (.ishl, 1) := by decide +kernel
theorem dX6_leaveStamp_125 : decode cX6_leaveStamp 125 = .ok (.ior, 1) := by decide +kernel
theorem dX6_leaveStamp_126 : decode cX6_leaveStamp 126 = .ok (.iastore, 1) := by decide +kernel
theorem dX6_leaveStamp_127 : decode cX6_leaveStamp 127 = .ok (.return_, 1) := by decide +kernel
def fW_leaveStamp (u : Nat) (f : (Nat → Int32)) (a1 : Int32) (a2 : Int32) (a3 : Int32) : Option ((Nat → Int32)) :=
  (nx_rd 514 f ((iz 48) + a1)).bind fun x1 =>
  (nx_rd 514 f ((iz 400) + a3)).bind fun x2 =>
  (nx_rd 514 f ((iz 346) + a3)).bind fun x3 =>
  (nx_wr 514 f ((iz 346) + a3) (if x3 < x1 then x1 else x3)).bind fun f4 =>
  (nx_rd 514 f4 ((iz 238) + a3)).bind fun x5 =>
  (nx_wr 514 f4 (((iz 184) + (a1 * (iz 6))) + a2) x5).bind fun f6 =>
  (nx_rd 514 f6 ((iz 56) + a1)).bind fun x7 =>
  if x7 = iz 0 then
    (nx_rd 514 f6 ((iz 238) + a3)).bind fun x10 =>
    (fW_doomBetween u f6 a2 x10 x1).bind fun g11 =>
    some g11
  else
    if x2 = (iz (-1)) then
      some f6
    else
      (nx_rd 514 f6 ((iz 64) + a1)).bind fun x8 =>
      (nx_wr 514 f6 ((iz 64) + a1) (x8 ||| ((iz 1) <<< (x2 &&& 31)))).bind fun f9 =>
      some f9
set_option maxRecDepth 4000 in
theorem jW_leaveStamp {Γ : nx_G} {M0 : nx_M} {w c : Nat} (hw : M0.1 w = some (.inr (6, [.ref c]))) (hc : w ≠ c) (u : Nat) (f : (Nat → Int32)) (a1 : Int32) (a2 : Int32) (a3 : Int32)   (X : nx_X) (Z : nx_Z) : nx_J Γ X (RX6, cX6_leaveStamp, 6, none, "leaveStamp", 2) Z (fun r0 : (Nat → Int32) => .inr (none, (wW Γ M0 c r0))) (.inl (0, [some (.ref w), some (.int a1), some (.int a2), some (.int a3), none, none], [], (wW Γ M0 c f))) (fW_leaveStamp u f a1 a2 a3) := by
  unfold fW_leaveStamp
  refine nx_aload_n rfl dX6_leaveStamp_0 rfl ?_
  refine nx_getf fl_6_11 ((nx_put_ne hc).trans hw) rfl dX6_leaveStamp_1 rfl ?_
  refine nx_bipush (by decide +kernel) dX6_leaveStamp_4 rfl ?_
  refine nx_iload_n rfl dX6_leaveStamp_6 rfl ?_
  refine nx_iadd dX6_leaveStamp_7 rfl ?_
  refine nx_iald nx_put_self dX6_leaveStamp_8 rfl (fun x1 => ?_)
  refine nx_istore [some (.ref w), some (.int a1), some (.int a2), some (.int a3), some (.int x1), none] dX6_leaveStamp_9 rfl (Nat.le_of_ble_eq_true rfl) rfl rfl ?_
  refine nx_aload_n rfl dX6_leaveStamp_11 rfl ?_
  refine nx_getf fl_6_11 ((nx_put_ne hc).trans hw) rfl dX6_leaveStamp_12 rfl ?_
  refine nx_sipush (by decide +kernel) dX6_leaveStamp_15 rfl ?_
  refine nx_iload_n rfl dX6_leaveStamp_18 rfl ?_
  refine nx_iadd dX6_leaveStamp_19 rfl ?_
  refine nx_iald nx_put_self dX6_leaveStamp_20 rfl (fun x2 => ?_)
  refine nx_istore [some (.ref w), some (.int a1), some (.int a2), some (.int a3), some (.int x1), some (.int x2)] dX6_leaveStamp_21 rfl (Nat.le_of_ble_eq_true rfl) rfl rfl ?_
  refine nx_aload_n rfl dX6_leaveStamp_23 rfl ?_
  refine nx_getf fl_6_11 ((nx_put_ne hc).trans hw) rfl dX6_leaveStamp_24 rfl ?_
  refine nx_sipush (by decide +kernel) dX6_leaveStamp_27 rfl ?_
  refine nx_iload_n rfl dX6_leaveStamp_30 rfl ?_
  refine nx_iadd dX6_leaveStamp_31 rfl ?_
  refine nx_aload_n rfl dX6_leaveStamp_32 rfl ?_
  refine nx_getf fl_6_11 ((nx_put_ne hc).trans hw) rfl dX6_leaveStamp_33 rfl ?_
  refine nx_sipush (by decide +kernel) dX6_leaveStamp_36 rfl ?_
  refine nx_iload_n rfl dX6_leaveStamp_39 rfl ?_
  refine nx_iadd dX6_leaveStamp_40 rfl ?_
  refine nx_iald nx_put_self dX6_leaveStamp_41 rfl (fun x3 => ?_)
  refine nx_iload rfl dX6_leaveStamp_42 rfl ?_
  refine nx_max wd_684 wd_685 wd_206 wd_686 (Nat.le_of_ble_eq_true rfl) (Nat.le_of_ble_eq_true rfl) dX6_leaveStamp_44 rfl ?_
  refine w_iast dX6_leaveStamp_47 rfl (fun f4 => ?_)
  refine nx_aload_n rfl dX6_leaveStamp_48 rfl ?_
  refine nx_getf fl_6_11 ((nx_put_ne hc).trans hw) rfl dX6_leaveStamp_49 rfl ?_
  refine nx_sipush (by decide +kernel) dX6_leaveStamp_52 rfl ?_
  refine nx_iload_n rfl dX6_leaveStamp_55 rfl ?_
  refine nx_bipush (by decide +kernel) dX6_leaveStamp_56 rfl ?_
  refine nx_imul dX6_leaveStamp_58 rfl ?_
  refine nx_iadd dX6_leaveStamp_59 rfl ?_
  refine nx_iload_n rfl dX6_leaveStamp_60 rfl ?_
  refine nx_iadd dX6_leaveStamp_61 rfl ?_
  refine nx_aload_n rfl dX6_leaveStamp_62 rfl ?_
  refine nx_getf fl_6_11 ((nx_put_ne hc).trans hw) rfl dX6_leaveStamp_63 rfl ?_
  refine nx_sipush (by decide +kernel) dX6_leaveStamp_66 rfl ?_
  refine nx_iload_n rfl dX6_leaveStamp_69 rfl ?_
  refine nx_iadd dX6_leaveStamp_70 rfl ?_
  refine nx_iald nx_put_self dX6_leaveStamp_71 rfl (fun x5 => ?_)
  refine w_iast dX6_leaveStamp_72 rfl (fun f6 => ?_)
  refine nx_aload_n rfl dX6_leaveStamp_73 rfl ?_
  refine nx_getf fl_6_11 ((nx_put_ne hc).trans hw) rfl dX6_leaveStamp_74 rfl ?_
  refine nx_bipush (by decide +kernel) dX6_leaveStamp_77 rfl ?_
  refine nx_iload_n rfl dX6_leaveStamp_79 rfl ?_
  refine nx_iadd dX6_leaveStamp_80 rfl ?_
  refine nx_iald nx_put_self dX6_leaveStamp_81 rfl (fun x7 => ?_)
  refine nx_if_ne (t := 105) dX6_leaveStamp_82 (by decide) rfl ?_ ?_
  · refine nx_iload rfl dX6_leaveStamp_105 rfl ?_
    refine nx_iconst dX6_leaveStamp_107 rfl ?_
    refine nx_icmp_eq (t := 127) dX6_leaveStamp_108 (by decide) rfl ?_ ?_
    · exact nx_vret dX6_leaveStamp_127 rfl rfl
    · refine nx_aload_n rfl dX6_leaveStamp_111 rfl ?_
      refine nx_getf fl_6_11 ((nx_put_ne hc).trans hw) rfl dX6_leaveStamp_112 rfl ?_
      refine nx_bipush (by decide +kernel) dX6_leaveStamp_115 rfl ?_
      refine nx_iload_n rfl dX6_leaveStamp_117 rfl ?_
      refine nx_iadd dX6_leaveStamp_118 rfl ?_
      refine nx_dup2 rfl rfl dX6_leaveStamp_119 rfl ?_
      refine nx_iald nx_put_self dX6_leaveStamp_120 rfl (fun x8 => ?_)
      refine nx_iconst dX6_leaveStamp_121 rfl ?_
      refine nx_iload rfl dX6_leaveStamp_122 rfl ?_
      refine nx_ishl dX6_leaveStamp_124 rfl ?_
      refine nx_ior dX6_leaveStamp_125 rfl ?_
      refine w_iast dX6_leaveStamp_126 rfl (fun f9 => ?_)
      exact nx_vret dX6_leaveStamp_127 rfl rfl
  · refine nx_aload_n rfl dX6_leaveStamp_85 rfl ?_
    refine nx_iload_n rfl dX6_leaveStamp_86 rfl ?_
    refine nx_aload_n rfl dX6_leaveStamp_87 rfl ?_
    refine nx_getf fl_6_11 ((nx_put_ne hc).trans hw) rfl dX6_leaveStamp_88 rfl ?_
    refine nx_sipush (by decide +kernel) dX6_leaveStamp_91 rfl ?_
    refine nx_iload_n rfl dX6_leaveStamp_94 rfl ?_
    refine nx_iadd dX6_leaveStamp_95 rfl ?_
    refine nx_iald nx_put_self dX6_leaveStamp_96 rfl (fun x10 => ?_)
    refine nx_iload rfl dX6_leaveStamp_97 rfl ?_
    refine nx_callVv [.int a2, .int x10, .int x1] (fun r => (wW Γ M0 c r)) cw_6_132 cv_X6_doomBetween (fun r e => cW_doomBetween X.2.1 hw hc e) ((nx_put_ne hc).trans hw) rfl rfl (Nat.le_of_ble_eq_true rfl) (Nat.le_of_ble_eq_true rfl) dX6_leaveStamp_99 rfl (fun g11 => ?_)
    refine nx_goto (q := 127) dX6_leaveStamp_102 (by decide) ?_
    exact nx_vret dX6_leaveStamp_127 rfl rfl
theorem cW_leaveStamp (l : Launch) {Γ : nx_G} {M0 : nx_M} {w c : Nat} (hw : M0.1 w = some (.inr (6, [.ref c]))) (hc : w ≠ c) {u : Nat} {f : (Nat → Int32)} {a1 : Int32} {a2 : Int32} {a3 : Int32} {r : (Nat → Int32)}  (h : fW_leaveStamp u f a1 a2 a3 = some r) : nx_Ct l Γ 2 yX6_leaveStamp cX6_leaveStamp 6 none [.ref w, .int a1, .int a2, .int a3] (wW Γ M0 c f) (none, (wW Γ M0 c r)) :=
  nx_ct (out := fun r0 : (Nat → Int32) => (none, (wW Γ M0 c r0))) [some (.ref w), some (.int a1), some (.int a2), some (.int a3), none, none] pn_RX6 h (Nat.le_of_ble_eq_true rfl) rfl (fun X Z _ => jW_leaveStamp hw hc u f a1 a2 a3 X Z)
theorem dX6_readKey_0 : decode cX6_readKey 0 = .ok (.aload_n 0, 1) := by decide +kernel
theorem dX6_readKey_1 : decode cX6_readKey 1 = .ok (.iload_n 1, 1) := by decide +kernel
theorem dX6_readKey_2 : decode cX6_readKey 2 = .ok (.iload_n 2, 1) := by decide +kernel
theorem dX6_readKey_3 : decode cX6_readKey 3 = .ok (.invokevirtual 118, 3) := by decide +kernel
theorem dX6_readKey_6 : decode cX6_readKey 6 = .ok (.istore_n 3, 1) := by decide +kernel
theorem dX6_readKey_7 : decode cX6_readKey 7 = .ok (.iload_n 3, 1) := by decide +kernel
theorem dX6_readKey_8 : decode cX6_readKey 8 = .ok (.bipush 54, 2) := by decide +kernel
theorem dX6_readKey_10 : decode cX6_readKey 10 = .ok (.invokestatic 33, 3) := by decide +kernel
theorem dX6_readKey_13 : decode cX6_readKey 13 = .ok (.ifCond .ne 5, 3) := by decide +kernel
theorem dX6_readKey_16 : decode cX6_readKey 16 = .ok (.iconst (-1), 1) := by decide +kernel
theorem dX6_readKey_17 : decode cX6_readKey 17 = .ok (.ireturn, 1) := by decide +kernel
theorem dX6_readKey_18 : decode cX6_readKey 18 = .ok (.aload_n 0, 1) := by decide +kernel
theorem dX6_readKey_19 : decode cX6_readKey 19 = .ok (.getfield 11, 3) := by decide +kernel
theorem dX6_readKey_22 : decode cX6_readKey 22 = .ok (.sipush 400, 3) := by decide +kernel
theorem dX6_readKey_25 : decode cX6_readKey 25 = .ok (.iload_n 3, 1) := by decide +kernel
theorem dX6_readKey_26 : decode cX6_readKey 26 = .ok (.iadd, 1) := by decide +kernel
theorem dX6_readKey_27 : decode cX6_readKey 27 = .ok (.iaload, 1) := by decide +kernel
theorem dX6_readKey_28 : decode cX6_readKey 28 = .ok (.iload_n 1, 1) := by decide +kernel
theorem dX6_readKey_29 : decode cX6_readKey 29 = .ok (.if_icmp .eq 10, 3) := by decide +kernel
theorem dX6_readKey_32 : decode cX6_readKey 32 = .ok (.aload_n 0, 1) := by decide +kernel
theorem dX6_readKey_33 : decode cX6_readKey 33 = .ok (.iload_n 1, 1) := by decide +kernel
theorem dX6_readKey_34 : decode cX6_readKey 34 = .ok (.iload_n 2, 1) := by decide +kernel
theorem dX6_readKey_35 : decode cX6_readKey 35 = .ok (.iload_n 3, 1) := by decide +kernel
theorem dX6_readKey_36 : decode cX6_readKey 36 = .ok (.invokevirtual 121, 3) := by decide +kernel
theorem dX6_readKey_39 : decode cX6_readKey 39 = .ok (.aload_n 0, 1) := by decide +kernel
theorem dX6_readKey_40 : decode cX6_readKey 40 = .ok (.iconst 1, 1) := by decide +kernel
theorem dX6_readKey_41 : decode cX6_readKey 41 = .ok (.iload_n 1, 1) := by decide +kernel
theorem dX6_readKey_42 : decode cX6_readKey 42 = .ok (.aload_n 0, 1) := by decide +kernel
theorem dX6_readKey_43 : decode cX6_readKey 43 = .ok (.getfield 11, 3) := by decide +kernel
theorem dX6_readKey_46 : decode cX6_readKey 46 = .ok (.sipush 238, 3) := by decide +kernel
theorem dX6_readKey_49 : decode cX6_readKey 49 = .ok (.iload_n 3, 1) := by decide +kernel
theorem dX6_readKey_50 : decode cX6_readKey 50 = .ok (.iadd, 1) := by decide +kernel
theorem dX6_readKey_51 : decode cX6_readKey 51 = .ok (.iaload, 1) := by decide +kernel
theorem dX6_readKey_52 : decode cX6_readKey 52 = .ok (.invokevirtual 115, 3) := by decide +kernel
theorem dX6_readKey_55 : decode cX6_readKey 55 = .ok (.aload_n 0, 1) := by decide +kernel
theorem dX6_readKey_56 : decode cX6_readKey 56 = .ok (.getfield 11, 3) := by decide +kernel
theorem dX6_readKey_59 : decode cX6_readKey 59 = .ok (.sipush 292, 3) := by decide +kernel
theorem dX6_readKey_62 : decode cX6_readKey 62 = .ok (.iload_n 3, 1) := by decide +kernel
theorem dX6_readKey_63 : decode cX6_readKey 63 = .ok (.iadd, 1) := by decide +kernel
theorem dX6_readKey_64 : decode cX6_readKey 64 = .ok (.iaload, 1) := by decide +kernel
theorem dX6_readKey_65 : decode cX6_readKey 65 = .ok (.ireturn, 1) := by decide +kernel
def fW_readKey (u : Nat) (f : (Nat → Int32)) (a1 : Int32) (a2 : Int32) : Option (Int32 × (Nat → Int32)) :=
  (fW_slotToRead u f a1 a2).bind fun x1 =>
  (fL_within u x1 (iz 54)).bind fun b2 =>
  if b2 = true then
    (nx_rd 514 f ((iz 400) + x1)).bind fun x3 =>
    (if x3 = a1 then
       some f
     else
       (fW_leaveStamp u f a1 a2 x1).bind fun g4 =>
       some g4 : Option ((Nat → Int32))).bind fun s5 =>
    (nx_rd 514 s5 ((iz 238) + x1)).bind fun x6 =>
    (fW_note u s5 (iz 1) a1 x6).bind fun g7 =>
    (nx_rd 514 g7 ((iz 292) + x1)).bind fun x8 =>
    some (x8, g7)
  else
    some ((iz (-1)), f)
set_option maxRecDepth 4000 in
theorem jW_readKey {Γ : nx_G} {M0 : nx_M} {w c : Nat} (hw : M0.1 w = some (.inr (6, [.ref c]))) (hc : w ≠ c) (u : Nat) (f : (Nat → Int32)) (a1 : Int32) (a2 : Int32)   (X : nx_X) (Z : nx_Z) : nx_J Γ X (RX6, cX6_readKey, 4, (some .int), "readKey", 3) Z (fun r0 : Int32 × (Nat → Int32) => .inr (some (.int r0.1), (wW Γ M0 c r0.2))) (.inl (0, [some (.ref w), some (.int a1), some (.int a2), none], [], (wW Γ M0 c f))) (fW_readKey u f a1 a2) := by
  unfold fW_readKey
  refine nx_aload_n rfl dX6_readKey_0 rfl ?_
  refine nx_iload_n rfl dX6_readKey_1 rfl ?_
  refine nx_iload_n rfl dX6_readKey_2 rfl ?_
  refine nx_callVr [.int a1, .int a2] (fun r => .int r) (fun _ => (wW Γ M0 c f)) cw_6_118 cv_X6_slotToRead (fun r e => cW_slotToRead X.2.1 hw hc e) ((nx_put_ne hc).trans hw) rfl rfl (Nat.le_of_ble_eq_true rfl) (Nat.le_of_ble_eq_true rfl) dX6_readKey_3 rfl (fun x1 => ?_)
  refine nx_istore_n [some (.ref w), some (.int a1), some (.int a2), some (.int x1)] dX6_readKey_6 rfl (Nat.le_of_ble_eq_true rfl) rfl rfl ?_
  refine nx_iload_n rfl dX6_readKey_7 rfl ?_
  refine nx_bipush (by decide +kernel) dX6_readKey_8 rfl ?_
  refine nx_callSr [.int x1, .int (iz 54)] (fun r => .int (bz r)) (fun _ => (wW Γ M0 c f)) cw_6_33 wd_442 (fun r e => cL_within X.2.1  e) rfl rfl (Nat.le_of_ble_eq_true rfl) (Nat.le_of_ble_eq_true rfl) dX6_readKey_10 rfl (fun b2 => ?_)
  refine nx_ifz_ne (t := 18) dX6_readKey_13 (by decide) rfl ?_ ?_
  · refine nx_aload_n rfl dX6_readKey_18 rfl ?_
    refine nx_getf fl_6_11 ((nx_put_ne hc).trans hw) rfl dX6_readKey_19 rfl ?_
    refine nx_sipush (by decide +kernel) dX6_readKey_22 rfl ?_
    refine nx_iload_n rfl dX6_readKey_25 rfl ?_
    refine nx_iadd dX6_readKey_26 rfl ?_
    refine nx_iald nx_put_self dX6_readKey_27 rfl (fun x3 => ?_)
    refine nx_iload_n rfl dX6_readKey_28 rfl ?_
    refine nx_seq (C1 := fun s5 : (Nat → Int32) => .inl (39, [some (.ref w), some (.int a1), some (.int a2), some (.int x1)], [], (wW Γ M0 c s5))) ?_ (fun s5 => ?_)
    · refine nx_icmp_eq (t := 39) dX6_readKey_29 (by decide) rfl ?_ ?_
      · exact nx_leaf rfl
      · refine nx_aload_n rfl dX6_readKey_32 rfl ?_
        refine nx_iload_n rfl dX6_readKey_33 rfl ?_
        refine nx_iload_n rfl dX6_readKey_34 rfl ?_
        refine nx_iload_n rfl dX6_readKey_35 rfl ?_
        refine nx_callVv [.int a1, .int a2, .int x1] (fun r => (wW Γ M0 c r)) cw_6_121 cv_X6_leaveStamp (fun r e => cW_leaveStamp X.2.1 hw hc e) ((nx_put_ne hc).trans hw) rfl rfl (Nat.le_of_ble_eq_true rfl) (Nat.le_of_ble_eq_true rfl) dX6_readKey_36 rfl (fun g4 => ?_)
        exact nx_leaf rfl
    refine nx_aload_n rfl dX6_readKey_39 rfl ?_
    refine nx_iconst dX6_readKey_40 rfl ?_
    refine nx_iload_n rfl dX6_readKey_41 rfl ?_
    refine nx_aload_n rfl dX6_readKey_42 rfl ?_
    refine nx_getf fl_6_11 ((nx_put_ne hc).trans hw) rfl dX6_readKey_43 rfl ?_
    refine nx_sipush (by decide +kernel) dX6_readKey_46 rfl ?_
    refine nx_iload_n rfl dX6_readKey_49 rfl ?_
    refine nx_iadd dX6_readKey_50 rfl ?_
    refine nx_iald nx_put_self dX6_readKey_51 rfl (fun x6 => ?_)
    refine nx_callVv [.int (iz 1), .int a1, .int x6] (fun r => (wW Γ M0 c r)) cw_6_115 cv_X6_note (fun r e => cW_note X.2.1 hw hc e) ((nx_put_ne hc).trans hw) rfl rfl (Nat.le_of_ble_eq_true rfl) (Nat.le_of_ble_eq_true rfl) dX6_readKey_52 rfl (fun g7 => ?_)
    refine nx_aload_n rfl dX6_readKey_55 rfl ?_
    refine nx_getf fl_6_11 ((nx_put_ne hc).trans hw) rfl dX6_readKey_56 rfl ?_
    refine nx_sipush (by decide +kernel) dX6_readKey_59 rfl ?_
    refine nx_iload_n rfl dX6_readKey_62 rfl ?_
    refine nx_iadd dX6_readKey_63 rfl ?_
    refine nx_iald nx_put_self dX6_readKey_64 rfl (fun x8 => ?_)
    exact nx_iret dX6_readKey_65 rfl rfl
  · refine nx_iconst dX6_readKey_16 rfl ?_
    exact nx_iret dX6_readKey_17 rfl rfl
theorem cW_readKey (l : Launch) {Γ : nx_G} {M0 : nx_M} {w c : Nat} (hw : M0.1 w = some (.inr (6, [.ref c]))) (hc : w ≠ c) {u : Nat} {f : (Nat → Int32)} {a1 : Int32} {a2 : Int32} {r : Int32 × (Nat → Int32)}  (h : fW_readKey u f a1 a2 = some r) : nx_Ct l Γ 3 yX6_readKey cX6_readKey 4 (some .int) [.ref w, .int a1, .int a2] (wW Γ M0 c f) (some (.int r.1), (wW Γ M0 c r.2)) :=
  nx_ct (out := fun r0 : Int32 × (Nat → Int32) => (some (.int r0.1), (wW Γ M0 c r0.2))) [some (.ref w), some (.int a1), some (.int a2), none] pn_RX6 h (Nat.le_of_ble_eq_true rfl) rfl (fun X Z _ => jW_readKey hw hc u f a1 a2 X Z)
theorem dX6_moveVersion_0 : decode cX6_moveVersion 0 = .ok (.aload_n 0, 1) := by decide +kernel
theorem dX6_moveVersion_1 : decode cX6_moveVersion 1 = .ok (.getfield 11, 3) := by decide +kernel
theorem dX6_moveVersion_4 : decode cX6_moveVersion 4 = .ok (.sipush 238, 3) := by decide +kernel
theorem dX6_moveVersion_7 : decode cX6_moveVersion 7 = .ok (.iload_n 2, 1) := by decide +kernel
theorem dX6_moveVersion_8 : decode cX6_moveVersion 8 = .ok (.iadd, 1) := by decide +kernel
theorem dX6_moveVersion_9 : decode cX6_moveVersion 9 = .ok (.aload_n 0, 1) := by decide +kernel
theorem dX6_moveVersion_10 : decode cX6_moveVersion 10 = .ok (.getfield 11, 3) := by decide +kernel
theorem dX6_moveVersion_13 : decode cX6_moveVersion 13 = .ok (.sipush 238, 3) := by decide +kernel
theorem dX6_moveVersion_16 : decode cX6_moveVersion 16 = .ok (.iload_n 1, 1) := by decide +kernel
theorem dX6_moveVersion_17 : decode cX6_moveVersion 17 = .ok (.iadd, 1) := by decide +kernel
theorem dX6_moveVersion_18 : decode cX6_moveVersion 18 = .ok (.iaload, 1) := by decide +kernel
theorem dX6_moveVersion_19 : decode cX6_moveVersion 19 = .ok (.iastore, 1) := by decide +kernel
theorem dX6_moveVersion_20 : decode cX6_moveVersion 20 = .ok (.aload_n 0, 1) := by decide +kernel
theorem dX6_moveVersion_21 : decode cX6_moveVersion 21 = .ok (.getfield 11, 3) := by decide +kernel
theorem dX6_moveVersion_24 : decode cX6_moveVersion 24 = .ok (.sipush 292, 3) := by decide +kernel
theorem dX6_moveVersion_27 : decode cX6_moveVersion 27 = .ok (.iload_n 2, 1) := by decide +kernel
theorem dX6_moveVersion_28 : decode cX6_moveVersion 28 = .ok (.iadd, 1) := by decide +kernel
theorem dX6_moveVersion_29 : decode cX6_moveVersion 29 = .ok (.aload_n 0, 1) := by decide +kernel
theorem dX6_moveVersion_30 : decode cX6_moveVersion 30 = .ok (.getfield 11, 3) := by decide +kernel
theorem dX6_moveVersion_33 : decode cX6_moveVersion 33 = .ok (.sipush 292, 3) := by decide +kernel
theorem dX6_moveVersion_36 : decode cX6_moveVersion 36 = .ok (.iload_n 1, 1) := by decide +kernel
theorem dX6_moveVersion_37 : decode cX6_moveVersion 37 = .ok (.iadd, 1) := by decide +kernel
theorem dX6_moveVersion_38 : decode cX6_moveVersion 38 = .ok (.iaload, 1) := by decide +kernel
theorem dX6_moveVersion_39 : decode cX6_moveVersion 39 = .ok (.iastore, 1) := by decide +kernel
theorem dX6_moveVersion_40 : decode cX6_moveVersion 40 = .ok (.aload_n 0, 1) := by decide +kernel
theorem dX6_moveVersion_41 : decode cX6_moveVersion 41 = .ok (.getfield 11, 3) := by decide +kernel
theorem dX6_moveVersion_44 : decode cX6_moveVersion 44 = .ok (.sipush 346, 3) := by decide +kernel
theorem dX6_moveVersion_47 : decode cX6_moveVersion 47 = .ok (.iload_n 2, 1) := by decide +kernel
theorem dX6_moveVersion_48 : decode cX6_moveVersion 48 = .ok (.iadd, 1) := by decide +kernel
theorem dX6_moveVersion_49 : decode cX6_moveVersion 49 = .ok (.aload_n 0, 1) := by decide +kernel
theorem dX6_moveVersion_50 : decode cX6_moveVersion 50 = .ok (.getfield 11, 3) := by decide +kernel
theorem dX6_moveVersion_53 : decode cX6_moveVersion 53 = .ok (.sipush 346, 3) := by decide +kernel
theorem dX6_moveVersion_56 : decode cX6_moveVersion 56 = .ok (.iload_n 1, 1) := by decide +kernel
theorem dX6_moveVersion_57 : decode cX6_moveVersion 57 = .ok (.iadd, 1) := by decide +kernel
theorem dX6_moveVersion_58 : decode cX6_moveVersion 58 = .ok (.iaload, 1) := by decide +kernel
theorem dX6_moveVersion_59 : decode cX6_moveVersion 59 = .ok (.iastore, 1) := by decide +kernel
theorem dX6_moveVersion_60 : decode cX6_moveVersion 60 = .ok (.aload_n 0, 1) := by decide +kernel
theorem dX6_moveVersion_61 : decode cX6_moveVersion 61 = .ok (.getfield 11, 3) := by decide +kernel
theorem dX6_moveVersion_64 : decode cX6_moveVersion 64 = .ok (.sipush 400, 3) := by decide +kernel
theorem dX6_moveVersion_67 : decode cX6_moveVersion 67 = .ok (.iload_n 2, 1) := by decide +kernel
theorem dX6_moveVersion_68 : decode cX6_moveVersion 68 = .ok (.iadd, 1) := by decide +kernel
theorem dX6_moveVersion_69 : decode cX6_moveVersion 69 = .ok (.aload_n 0, 1) := by decide +kernel
theorem dX6_moveVersion_70 : decode cX6_moveVersion 70 = .ok (.getfield 11, 3) := by decide +kernel
theorem dX6_moveVersion_73 : decode cX6_moveVersion 73 = .ok (.sipush 400, 3) := by decide +kernel
theorem dX6_moveVersion_76 : decode cX6_moveVersion 76 = .ok (.iload_n 1, 1) := by decide +kernel
theorem dX6_moveVersion_77 : decode cX6_moveVersion 77 = .ok (.iadd, 1) := by decide +kernel
theorem dX6_moveVersion_78 : decode cX6_moveVersion 78 = .ok (.iaload, 1) := by decide +kernel
theorem dX6_moveVersion_79 : decode cX6_moveVersion 79 = .ok (.iastore, 1) := by decide +kernel
theorem dX6_moveVersion_80 : decode cX6_moveVersion 80 = .ok (.return_, 1) := by decide +kernel
def fW_moveVersion (u : Nat) (f : (Nat → Int32)) (a1 : Int32) (a2 : Int32) : Option ((Nat → Int32)) :=
  (nx_rd 514 f ((iz 238) + a1)).bind fun x1 =>
  (nx_wr 514 f ((iz 238) + a2) x1).bind fun f2 =>
  (nx_rd 514 f2 ((iz 292) + a1)).bind fun x3 =>
  (nx_wr 514 f2 ((iz 292) + a2) x3).bind fun f4 =>
  (nx_rd 514 f4 ((iz 346) + a1)).bind fun x5 =>
  (nx_wr 514 f4 ((iz 346) + a2) x5).bind fun f6 =>
  (nx_rd 514 f6 ((iz 400) + a1)).bind fun x7 =>
  (nx_wr 514 f6 ((iz 400) + a2) x7).bind fun f8 =>
  some f8
set_option maxRecDepth 4000 in
theorem jW_moveVersion {Γ : nx_G} {M0 : nx_M} {w c : Nat} (hw : M0.1 w = some (.inr (6, [.ref c]))) (hc : w ≠ c) (u : Nat) (f : (Nat → Int32)) (a1 : Int32) (a2 : Int32)   (X : nx_X) (Z : nx_Z) : nx_J Γ X (RX6, cX6_moveVersion, 3, none, "moveVersion", 1) Z (fun r0 : (Nat → Int32) => .inr (none, (wW Γ M0 c r0))) (.inl (0, [some (.ref w), some (.int a1), some (.int a2)], [], (wW Γ M0 c f))) (fW_moveVersion u f a1 a2) := by
  unfold fW_moveVersion
  refine nx_aload_n rfl dX6_moveVersion_0 rfl ?_
  refine nx_getf fl_6_11 ((nx_put_ne hc).trans hw) rfl dX6_moveVersion_1 rfl ?_
  refine nx_sipush (by decide +kernel) dX6_moveVersion_4 rfl ?_
  refine nx_iload_n rfl dX6_moveVersion_7 rfl ?_
  refine nx_iadd dX6_moveVersion_8 rfl ?_
  refine nx_aload_n rfl dX6_moveVersion_9 rfl ?_
  refine nx_getf fl_6_11 ((nx_put_ne hc).trans hw) rfl dX6_moveVersion_10 rfl ?_
  refine nx_sipush (by decide +kernel) dX6_moveVersion_13 rfl ?_
  refine nx_iload_n rfl dX6_moveVersion_16 rfl ?_
  refine nx_iadd dX6_moveVersion_17 rfl ?_
  refine nx_iald nx_put_self dX6_moveVersion_18 rfl (fun x1 => ?_)
  refine w_iast dX6_moveVersion_19 rfl (fun f2 => ?_)
  refine nx_aload_n rfl dX6_moveVersion_20 rfl ?_
  refine nx_getf fl_6_11 ((nx_put_ne hc).trans hw) rfl dX6_moveVersion_21 rfl ?_
  refine nx_sipush (by decide +kernel) dX6_moveVersion_24 rfl ?_
  refine nx_iload_n rfl dX6_moveVersion_27 rfl ?_
  refine nx_iadd dX6_moveVersion_28 rfl ?_
  refine nx_aload_n rfl dX6_moveVersion_29 rfl ?_
  refine nx_getf fl_6_11 ((nx_put_ne hc).trans hw) rfl dX6_moveVersion_30 rfl ?_
  refine nx_sipush (by decide +kernel) dX6_moveVersion_33 rfl ?_
  refine nx_iload_n rfl dX6_moveVersion_36 rfl ?_
  refine nx_iadd dX6_moveVersion_37 rfl ?_
  refine nx_iald nx_put_self dX6_moveVersion_38 rfl (fun x3 => ?_)
  refine w_iast dX6_moveVersion_39 rfl (fun f4 => ?_)
  refine nx_aload_n rfl dX6_moveVersion_40 rfl ?_
  refine nx_getf fl_6_11 ((nx_put_ne hc).trans hw) rfl dX6_moveVersion_41 rfl ?_
  refine nx_sipush (by decide +kernel) dX6_moveVersion_44 rfl ?_
  refine nx_iload_n rfl dX6_moveVersion_47 rfl ?_
  refine nx_iadd dX6_moveVersion_48 rfl ?_
  refine nx_aload_n rfl dX6_moveVersion_49 rfl ?_
  refine nx_getf fl_6_11 ((nx_put_ne hc).trans hw) rfl dX6_moveVersion_50 rfl ?_
  refine nx_sipush (by decide +kernel) dX6_moveVersion_53 rfl ?_
  refine nx_iload_n rfl dX6_moveVersion_56 rfl ?_
  refine nx_iadd dX6_moveVersion_57 rfl ?_
  refine nx_iald nx_put_self dX6_moveVersion_58 rfl (fun x5 => ?_)
  refine w_iast dX6_moveVersion_59 rfl (fun f6 => ?_)
  refine nx_aload_n rfl dX6_moveVersion_60 rfl ?_
  refine nx_getf fl_6_11 ((nx_put_ne hc).trans hw) rfl dX6_moveVersion_61 rfl ?_
  refine nx_sipush (by decide +kernel) dX6_moveVersion_64 rfl ?_
  refine nx_iload_n rfl dX6_moveVersion_67 rfl ?_
  refine nx_iadd dX6_moveVersion_68 rfl ?_
  refine nx_aload_n rfl dX6_moveVersion_69 rfl ?_
  refine nx_getf fl_6_11 ((nx_put_ne hc).trans hw) rfl dX6_moveVersion_70 rfl ?_
  refine nx_sipush (by decide +kernel) dX6_moveVersion_73 rfl ?_
  refine nx_iload_n rfl dX6_moveVersion_76 rfl ?_
  refine nx_iadd dX6_moveVersion_77 rfl ?_
  refine nx_iald nx_put_self dX6_moveVersion_78 rfl (fun x7 => ?_)
  refine w_iast dX6_moveVersion_79 rfl (fun f8 => ?_)
  exact nx_vret dX6_moveVersion_80 rfl rfl
theorem cW_moveVersion (l : Launch) {Γ : nx_G} {M0 : nx_M} {w c : Nat} (hw : M0.1 w = some (.inr (6, [.ref c]))) (hc : w ≠ c) {u : Nat} {f : (Nat → Int32)} {a1 : Int32} {a2 : Int32} {r : (Nat → Int32)}  (h : fW_moveVersion u f a1 a2 = some r) : nx_Ct l Γ 1 yX6_moveVersion cX6_moveVersion 3 none [.ref w, .int a1, .int a2] (wW Γ M0 c f) (none, (wW Γ M0 c r)) :=
  nx_ct (out := fun r0 : (Nat → Int32) => (none, (wW Γ M0 c r0))) [some (.ref w), some (.int a1), some (.int a2)] pn_RX6 h (Nat.le_of_ble_eq_true rfl) rfl (fun X Z _ => jW_moveVersion hw hc u f a1 a2 X Z)
theorem dX6_dropOwn_0 : decode cX6_dropOwn 0 = .ok (.aload_n 0, 1) := by decide +kernel
theorem dX6_dropOwn_1 : decode cX6_dropOwn 1 = .ok (.iload_n 1, 1) := by decide +kernel
theorem dX6_dropOwn_2 : decode cX6_dropOwn 2 = .ok (.iload_n 2, 1) := by decide +kernel
theorem dX6_dropOwn_3 : decode cX6_dropOwn 3 = .ok (.invokevirtual 78, 3) := by decide +kernel
theorem dX6_dropOwn_6 : decode cX6_dropOwn 6 = .ok (.istore_n 3, 1) := by decide +kernel
theorem dX6_dropOwn_7 : decode cX6_dropOwn 7 = .ok (.iload_n 3, 1) := by decide +kernel
theorem dX6_dropOwn_8 : decode cX6_dropOwn 8 = .ok (.bipush 54, 2) := by decide +kernel
theorem dX6_dropOwn_10 : decode cX6_dropOwn 10 = .ok (.invokestatic 33, 3) := by decide +kernel
theorem dX6_dropOwn_13 : decode cX6_dropOwn 13 = .ok (.ifCond .ne 4, 3) := by decide +kernel
theorem dX6_dropOwn_16 : decode cX6_dropOwn 16 = .ok (.return_, 1) := by decide +kernel
theorem dX6_dropOwn_17 : decode cX6_dropOwn 17 = .ok (.iload_n 1, 1) := by decide +kernel
theorem dX6_dropOwn_18 : decode cX6_dropOwn 18 = .ok (.bipush 9, 2) := by decide +kernel
theorem dX6_dropOwn_20 : decode cX6_dropOwn 20 = .ok (.imul, 1) := by decide +kernel
theorem dX6_dropOwn_21 : decode cX6_dropOwn 21 = .ok (.aload_n 0, 1) := by decide +kernel
theorem dX6_dropOwn_22 : decode cX6_dropOwn 22 = .ok (.getfield 11, 3) := by decide +kernel
theorem dX6_dropOwn_25 : decode cX6_dropOwn 25 = .ok (.sipush 232, 3) := by decide +kernel
theorem dX6_dropOwn_28 : decode cX6_dropOwn 28 = .ok (.iload_n 1, 1) := by decide +kernel
theorem dX6_dropOwn_29 : decode cX6_dropOwn 29 = .ok (.iadd, 1) := by decide +kernel
theorem dX6_dropOwn_30 : decode cX6_dropOwn 30 = .ok (.iaload, 1) := by decide +kernel
theorem dX6_dropOwn_31 : decode cX6_dropOwn 31 = .ok (.bipush 9, 2) := by decide +kernel
theorem dX6_dropOwn_33 : decode cX6_dropOwn 33 = .ok (.invokestatic 124, 3) := by decide +kernel
theorem dX6_dropOwn_36 : decode cX6_dropOwn 36 = .ok (.iadd, 1) := by decide +kernel
theorem dX6_dropOwn_37 : decode cX6_dropOwn 37 = .ok (.iconst 1, 1) := by decide +kernel
theorem dX6_dropOwn_38 : decode cX6_dropOwn 38 = .ok (.isub, 1) := by decide +kernel
theorem dX6_dropOwn_39 : decode cX6_dropOwn 39 = .ok (.istore 4, 2) := by decide +kernel
theorem dX6_dropOwn_41 : decode cX6_dropOwn 41 = .ok (.iload_n 3, 1) := by decide +kernel
theorem dX6_dropOwn_42 : decode cX6_dropOwn 42 = .ok (.istore 5, 2) := by decide +kernel
theorem dX6_dropOwn_44 : decode cX6_dropOwn 44 = .ok (.iload 5, 2) := by decide +kernel
theorem dX6_dropOwn_46 : decode cX6_dropOwn 46 = .ok (.iload 4, 2) := by decide +kernel
theorem dX6_dropOwn_48 : decode cX6_dropOwn 48 = .ok (.if_icmp .ge 19, 3) := by decide +kernel
theorem dX6_dropOwn_51 : decode cX6_dropOwn 51 = .ok (.aload_n 0, 1) := by decide +kernel
theorem dX6_dropOwn_52 : decode cX6_dropOwn 52 = .ok (.iload 5, 2) := by decide +kernel
theorem dX6_dropOwn_54 : decode cX6_dropOwn 54 = .ok (.iconst 1, 1) := by decide +kernel
theorem dX6_dropOwn_55 : decode cX6_dropOwn 55 = .ok (.iadd, 1) := by decide +kernel
theorem dX6_dropOwn_56 : decode cX6_dropOwn 56 = .ok (.iload 5, 2) := by decide +kernel
theorem dX6_dropOwn_58 : decode cX6_dropOwn 58 = .ok (.invokevirtual 138, 3) := by decide +kernel
theorem dX6_dropOwn_61 : decode cX6_dropOwn 61 = .ok (.iinc 5 1, 3) := by decide +kernel
theorem dX6_dropOwn_64 : decode cX6_dropOwn 64 = .ok (.goto (-20), 3) := by decide +kernel
theorem dX6_dropOwn_67 : decode cX6_dropOwn 67 = .ok (.aload_n 0, 1) := by decide +kernel
theorem dX6_dropOwn_68 : decode cX6_dropOwn 68 = .ok (.getfield 11, 3) := by decide +kernel
theorem dX6_dropOwn_71 : decode cX6_dropOwn 71 = .ok (.sipush 232, 3) := by decide +kernel
theorem dX6_dropOwn_74 : decode cX6_dropOwn 74 = .ok (.iload_n 1, 1) := by decide +kernel
theorem dX6_dropOwn_75 : decode cX6_dropOwn 75 = .ok (.iadd, 1) := by decide +kernel
theorem dX6_dropOwn_76 : decode cX6_dropOwn 76 = .ok (.dup2, 1) := by decide +kernel
theorem dX6_dropOwn_77 : decode cX6_dropOwn 77 = .ok (.iaload, 1) := by decide +kernel
theorem dX6_dropOwn_78 : decode cX6_dropOwn 78 = .ok (.iconst 1, 1) := by decide +kernel
theorem dX6_dropOwn_79 : decode cX6_dropOwn 79 = .ok (.isub, 1) := by decide +kernel
theorem dX6_dropOwn_80 : decode cX6_dropOwn 80 = .ok (.iastore, 1) := by decide +kernel
theorem dX6_dropOwn_81 : decode cX6_dropOwn 81 = .ok (.return_, 1) := by decide +kernel
def fW_dropOwn_44 (u : Nat) (a1 : Int32) (x3 : Int32) (s4 : Int32 × (Nat → Int32)) : Option ((Int32 × (Nat → Int32)) ⊕ ((Nat → Int32))) :=
  if (((a1 * (iz 9)) + (if (iz 9) < x3 then (iz 9) else x3)) - (iz 1)) ≤ s4.1 then
    some (.inr s4.2)
  else
    (fW_moveVersion u s4.2 (s4.1 + (iz 1)) s4.1).bind fun g5 =>
    some (.inl ((s4.1 + iz 1), g5))
def fW_dropOwn (u : Nat) (f : (Nat → Int32)) (a1 : Int32) (a2 : Int32) : Option ((Nat → Int32)) :=
  (fW_ownSlot u f a1 a2).bind fun x1 =>
  (fL_within u x1 (iz 54)).bind fun b2 =>
  if b2 = true then
    (nx_rd 514 f ((iz 232) + a1)).bind fun x3 =>
    (nx_iter u (fW_dropOwn_44 u a1 x3) (x1, f)).bind fun e6 =>
    (nx_rd 514 e6 ((iz 232) + a1)).bind fun x7 =>
    (nx_wr 514 e6 ((iz 232) + a1) (x7 - (iz 1))).bind fun f8 =>
    some f8
  else
    some f
set_option maxRecDepth 4000 in
theorem jW_dropOwn_44 {Γ : nx_G} {M0 : nx_M} {w c : Nat} (hw : M0.1 w = some (.inr (6, [.ref c]))) (hc : w ≠ c) (u : Nat) (a1 : Int32) (a2 : Int32) (x1 : Int32) (x3 : Int32)   (X : nx_X) (Z : nx_Z) (s4 : Int32 × (Nat → Int32)) : nx_J Γ X (RX6, cX6_dropOwn, 6, none, "dropOwn", 2) Z (Sum.elim (fun s4 : Int32 × (Nat → Int32) => .inl (44, [some (.ref w), some (.int a1), some (.int a2), some (.int x1), some (.int (((a1 * (iz 9)) + (if (iz 9) < x3 then (iz 9) else x3)) - (iz 1))), some (.int s4.1)], [], (wW Γ M0 c s4.2))) (fun e6 : (Nat → Int32) => .inl (67, [some (.ref w), some (.int a1), some (.int a2), some (.int x1), some (.int (((a1 * (iz 9)) + (if (iz 9) < x3 then (iz 9) else x3)) - (iz 1))), none], [], (wW Γ M0 c e6)))) (.inl (44, [some (.ref w), some (.int a1), some (.int a2), some (.int x1), some (.int (((a1 * (iz 9)) + (if (iz 9) < x3 then (iz 9) else x3)) - (iz 1))), some (.int s4.1)], [], (wW Γ M0 c s4.2))) (fW_dropOwn_44 u a1 x3 s4) := by
  unfold fW_dropOwn_44
  refine nx_iload rfl dX6_dropOwn_44 rfl ?_
  refine nx_iload rfl dX6_dropOwn_46 rfl ?_
  refine nx_icmp_ge (t := 67) dX6_dropOwn_48 (by decide) rfl ?_ ?_
  · refine nx_weak (ls' := [some (.ref w), some (.int a1), some (.int a2), some (.int x1), some (.int (((a1 * (iz 9)) + (if (iz 9) < x3 then (iz 9) else x3)) - (iz 1))), none]) (nx_wk_s (nx_wk_s (nx_wk_s (nx_wk_s (nx_wk_s (nx_wk_n nx_wk_e)))))) ?_
    obtain ⟨_, _⟩ := s4
    exact nx_leaf rfl
  · refine nx_aload_n rfl dX6_dropOwn_51 rfl ?_
    refine nx_iload rfl dX6_dropOwn_52 rfl ?_
    refine nx_iconst dX6_dropOwn_54 rfl ?_
    refine nx_iadd dX6_dropOwn_55 rfl ?_
    refine nx_iload rfl dX6_dropOwn_56 rfl ?_
    refine nx_callVv [.int (s4.1 + (iz 1)), .int s4.1] (fun r => (wW Γ M0 c r)) cw_6_138 cv_X6_moveVersion (fun r e => cW_moveVersion X.2.1 hw hc e) ((nx_put_ne hc).trans hw) rfl rfl (Nat.le_of_ble_eq_true rfl) (Nat.le_of_ble_eq_true rfl) dX6_dropOwn_58 rfl (fun g5 => ?_)
    refine nx_iinc [some (.ref w), some (.int a1), some (.int a2), some (.int x1), some (.int (((a1 * (iz 9)) + (if (iz 9) < x3 then (iz 9) else x3)) - (iz 1))), some (.int (s4.1 + iz 1))] dX6_dropOwn_61 rfl rfl (Nat.le_of_ble_eq_true rfl) rfl rfl ?_
    refine nx_goto (q := 44) dX6_dropOwn_64 (by decide) ?_
    obtain ⟨_, _⟩ := s4
    exact nx_leaf rfl
set_option maxRecDepth 4000 in
theorem jW_dropOwn {Γ : nx_G} {M0 : nx_M} {w c : Nat} (hw : M0.1 w = some (.inr (6, [.ref c]))) (hc : w ≠ c) (u : Nat) (f : (Nat → Int32)) (a1 : Int32) (a2 : Int32)   (X : nx_X) (Z : nx_Z) : nx_J Γ X (RX6, cX6_dropOwn, 6, none, "dropOwn", 2) Z (fun r0 : (Nat → Int32) => .inr (none, (wW Γ M0 c r0))) (.inl (0, [some (.ref w), some (.int a1), some (.int a2), none, none, none], [], (wW Γ M0 c f))) (fW_dropOwn u f a1 a2) := by
  unfold fW_dropOwn
  refine nx_aload_n rfl dX6_dropOwn_0 rfl ?_
  refine nx_iload_n rfl dX6_dropOwn_1 rfl ?_
  refine nx_iload_n rfl dX6_dropOwn_2 rfl ?_
  refine nx_callVr [.int a1, .int a2] (fun r => .int r) (fun _ => (wW Γ M0 c f)) cw_6_78 cv_X6_ownSlot (fun r e => cW_ownSlot X.2.1 hw hc e) ((nx_put_ne hc).trans hw) rfl rfl (Nat.le_of_ble_eq_true rfl) (Nat.le_of_ble_eq_true rfl) dX6_dropOwn_3 rfl (fun x1 => ?_)
  refine nx_istore_n [some (.ref w), some (.int a1), some (.int a2), some (.int x1), none, none] dX6_dropOwn_6 rfl (Nat.le_of_ble_eq_true rfl) rfl rfl ?_
  refine nx_iload_n rfl dX6_dropOwn_7 rfl ?_
  refine nx_bipush (by decide +kernel) dX6_dropOwn_8 rfl ?_
  refine nx_callSr [.int x1, .int (iz 54)] (fun r => .int (bz r)) (fun _ => (wW Γ M0 c f)) cw_6_33 wd_442 (fun r e => cL_within X.2.1  e) rfl rfl (Nat.le_of_ble_eq_true rfl) (Nat.le_of_ble_eq_true rfl) dX6_dropOwn_10 rfl (fun b2 => ?_)
  refine nx_ifz_ne (t := 17) dX6_dropOwn_13 (by decide) rfl ?_ ?_
  · refine nx_iload_n rfl dX6_dropOwn_17 rfl ?_
    refine nx_bipush (by decide +kernel) dX6_dropOwn_18 rfl ?_
    refine nx_imul dX6_dropOwn_20 rfl ?_
    refine nx_aload_n rfl dX6_dropOwn_21 rfl ?_
    refine nx_getf fl_6_11 ((nx_put_ne hc).trans hw) rfl dX6_dropOwn_22 rfl ?_
    refine nx_sipush (by decide +kernel) dX6_dropOwn_25 rfl ?_
    refine nx_iload_n rfl dX6_dropOwn_28 rfl ?_
    refine nx_iadd dX6_dropOwn_29 rfl ?_
    refine nx_iald nx_put_self dX6_dropOwn_30 rfl (fun x3 => ?_)
    refine nx_bipush (by decide +kernel) dX6_dropOwn_31 rfl ?_
    refine nx_min wd_663 wd_645 wd_206 wd_646 (Nat.le_of_ble_eq_true rfl) (Nat.le_of_ble_eq_true rfl) dX6_dropOwn_33 rfl ?_
    refine nx_iadd dX6_dropOwn_36 rfl ?_
    refine nx_iconst dX6_dropOwn_37 rfl ?_
    refine nx_isub dX6_dropOwn_38 rfl ?_
    refine nx_istore [some (.ref w), some (.int a1), some (.int a2), some (.int x1), some (.int (((a1 * (iz 9)) + (if (iz 9) < x3 then (iz 9) else x3)) - (iz 1))), none] dX6_dropOwn_39 rfl (Nat.le_of_ble_eq_true rfl) rfl rfl ?_
    refine nx_iload_n rfl dX6_dropOwn_41 rfl ?_
    refine nx_istore [some (.ref w), some (.int a1), some (.int a2), some (.int x1), some (.int (((a1 * (iz 9)) + (if (iz 9) < x3 then (iz 9) else x3)) - (iz 1))), some (.int x1)] dX6_dropOwn_42 rfl (Nat.le_of_ble_eq_true rfl) rfl rfl ?_
    refine nx_seq (C1 := fun e6 : (Nat → Int32) => .inl (67, [some (.ref w), some (.int a1), some (.int a2), some (.int x1), some (.int (((a1 * (iz 9)) + (if (iz 9) < x3 then (iz 9) else x3)) - (iz 1))), none], [], (wW Γ M0 c e6))) (nx_loop (C1 := fun s4 : Int32 × (Nat → Int32) => .inl (44, [some (.ref w), some (.int a1), some (.int a2), some (.int x1), some (.int (((a1 * (iz 9)) + (if (iz 9) < x3 then (iz 9) else x3)) - (iz 1))), some (.int s4.1)], [], (wW Γ M0 c s4.2))) (fun s4 => jW_dropOwn_44 hw hc u a1 a2 x1 x3 X Z s4) (x1, f)) (fun e6 => ?_)
    refine nx_aload_n rfl dX6_dropOwn_67 rfl ?_
    refine nx_getf fl_6_11 ((nx_put_ne hc).trans hw) rfl dX6_dropOwn_68 rfl ?_
    refine nx_sipush (by decide +kernel) dX6_dropOwn_71 rfl ?_
    refine nx_iload_n rfl dX6_dropOwn_74 rfl ?_
    refine nx_iadd dX6_dropOwn_75 rfl ?_
    refine nx_dup2 rfl rfl dX6_dropOwn_76 rfl ?_
    refine nx_iald nx_put_self dX6_dropOwn_77 rfl (fun x7 => ?_)
    refine nx_iconst dX6_dropOwn_78 rfl ?_
    refine nx_isub dX6_dropOwn_79 rfl ?_
    refine w_iast dX6_dropOwn_80 rfl (fun f8 => ?_)
    exact nx_vret dX6_dropOwn_81 rfl rfl
  · exact nx_vret dX6_dropOwn_16 rfl rfl
theorem cW_dropOwn (l : Launch) {Γ : nx_G} {M0 : nx_M} {w c : Nat} (hw : M0.1 w = some (.inr (6, [.ref c]))) (hc : w ≠ c) {u : Nat} {f : (Nat → Int32)} {a1 : Int32} {a2 : Int32} {r : (Nat → Int32)}  (h : fW_dropOwn u f a1 a2 = some r) : nx_Ct l Γ 2 yX6_dropOwn cX6_dropOwn 6 none [.ref w, .int a1, .int a2] (wW Γ M0 c f) (none, (wW Γ M0 c r)) :=
  nx_ct (out := fun r0 : (Nat → Int32) => (none, (wW Γ M0 c r0))) [some (.ref w), some (.int a1), some (.int a2), none, none, none] pn_RX6 h (Nat.le_of_ble_eq_true rfl) rfl (fun X Z _ => jW_dropOwn hw hc u f a1 a2 X Z)
theorem dX6_seatsIn_0 : decode cX6_seatsIn 0 = .ok (.iconst 0, 1) := by decide +kernel
theorem dX6_seatsIn_1 : decode cX6_seatsIn 1 = .ok (.istore_n 2, 1) := by decide +kernel
theorem dX6_seatsIn_2 : decode cX6_seatsIn 2 = .ok (.iconst 0, 1) := by decide +kernel
theorem dX6_seatsIn_3 : decode cX6_seatsIn 3 = .ok (.istore_n 3, 1) := by decide +kernel
theorem dX6_seatsIn_4 : decode cX6_seatsIn 4 = .ok (.iload_n 3, 1) := by decide +kernel
theorem dX6_seatsIn_5 : decode cX6_seatsIn 5 = .ok (.bipush 8, 2) := by decide +kernel
theorem dX6_seatsIn_7 : decode cX6_seatsIn 7 = .ok (.if_icmp .ge 28, 3) := by decide +kernel
theorem dX6_seatsIn_10 : decode cX6_seatsIn 10 = .ok (.aload_n 0, 1) := by decide +kernel
theorem dX6_seatsIn_11 : decode cX6_seatsIn 11 = .ok (.getfield 11, 3) := by decide +kernel
theorem dX6_seatsIn_14 : decode cX6_seatsIn 14 = .ok (.bipush 40, 2) := by decide +kernel
theorem dX6_seatsIn_16 : decode cX6_seatsIn 16 = .ok (.iload_n 3, 1) := by decide +kernel
theorem dX6_seatsIn_17 : decode cX6_seatsIn 17 = .ok (.iadd, 1) := by decide +kernel
theorem dX6_seatsIn_18 : decode cX6_seatsIn 18 = .ok (.iaload, 1) := by decide +kernel
theorem dX6_seatsIn_19 : decode cX6_seatsIn 19 = .ok (.iload_n 1, 1) := by decide +kernel
theorem dX6_seatsIn_20 : decode cX6_seatsIn 20 = .ok (.if_icmp .ne 9, 3) := by decide +kernel
theorem dX6_seatsIn_23 : decode cX6_seatsIn 23 = .ok (.iload_n 2, 1) := by decide +kernel
theorem dX6_seatsIn_24 : decode cX6_seatsIn 24 = .ok (.iconst 1, 1) := by decide +kernel
theorem dX6_seatsIn_25 : decode cX6_seatsIn 25 = .ok (.iload_n 3, 1) := by decide +kernel
theorem dX6_seatsIn_26 : decode cX6_seatsIn 26 = .ok (.ishl, 1) := by decide +kernel
theorem dX6_seatsIn_27 : decode cX6_seatsIn 27 = .ok (.ior, 1) := by decide +kernel
theorem dX6_seatsIn_28 : decode cX6_seatsIn 28 = .ok (.istore_n 2, 1) := by decide +kernel
theorem dX6_seatsIn_29 : decode cX6_seatsIn 29 = .ok (.iinc 3 1, 3) := by decide +kernel
theorem dX6_seatsIn_32 : decode cX6_seatsIn 32 = .ok (.goto (-28), 3) := by decide +kernel
theorem dX6_seatsIn_35 : decode cX6_seatsIn 35 = .ok (.iload_n 2, 1) := by decide +kernel
theorem dX6_seatsIn_36 : decode cX6_seatsIn 36 = .ok (.ireturn, 1) := by decide +kernel
def fW_seatsIn_4 (f : (Nat → Int32)) (a1 : Int32) (s1 : Int32 × Int32) : Option ((Int32 × Int32) ⊕ (Int32)) :=
  if (iz 8) ≤ s1.2 then
    some (.inr s1.1)
  else
    (nx_rd 514 f ((iz 40) + s1.2)).bind fun x2 =>
    (if x2 = a1 then
       some (s1.1 ||| ((iz 1) <<< (s1.2 &&& 31)))
     else
       some s1.1 : Option (Int32)).bind fun s3 =>
    some (.inl (s3, (s1.2 + iz 1)))
def fW_seatsIn (u : Nat) (f : (Nat → Int32)) (a1 : Int32) : Option (Int32) :=
  (nx_iter u (fW_seatsIn_4 f a1) ((iz 0), (iz 0))).bind fun e4 =>
  some e4
set_option maxRecDepth 4000 in
theorem jW_seatsIn_4 {Γ : nx_G} {M0 : nx_M} {w c : Nat} (hw : M0.1 w = some (.inr (6, [.ref c]))) (hc : w ≠ c) (f : (Nat → Int32)) (a1 : Int32)   (X : nx_X) (Z : nx_Z) (s1 : Int32 × Int32) : nx_J Γ X (RX6, cX6_seatsIn, 4, (some .int), "seatsIn", 1) Z (Sum.elim (fun s1 : Int32 × Int32 => .inl (4, [some (.ref w), some (.int a1), some (.int s1.1), some (.int s1.2)], [], (wW Γ M0 c f))) (fun e4 : Int32 => .inl (35, [some (.ref w), some (.int a1), some (.int e4), none], [], (wW Γ M0 c f)))) (.inl (4, [some (.ref w), some (.int a1), some (.int s1.1), some (.int s1.2)], [], (wW Γ M0 c f))) (fW_seatsIn_4 f a1 s1) := by
  unfold fW_seatsIn_4
  refine nx_iload_n rfl dX6_seatsIn_4 rfl ?_
  refine nx_bipush (by decide +kernel) dX6_seatsIn_5 rfl ?_
  refine nx_icmp_ge (t := 35) dX6_seatsIn_7 (by decide) rfl ?_ ?_
  · refine nx_weak (ls' := [some (.ref w), some (.int a1), some (.int s1.1), none]) (nx_wk_s (nx_wk_s (nx_wk_s (nx_wk_n nx_wk_e)))) ?_
    obtain ⟨_, _⟩ := s1
    exact nx_leaf rfl
  · refine nx_aload_n rfl dX6_seatsIn_10 rfl ?_
    refine nx_getf fl_6_11 ((nx_put_ne hc).trans hw) rfl dX6_seatsIn_11 rfl ?_
    refine nx_bipush (by decide +kernel) dX6_seatsIn_14 rfl ?_
    refine nx_iload_n rfl dX6_seatsIn_16 rfl ?_
    refine nx_iadd dX6_seatsIn_17 rfl ?_
    refine nx_iald nx_put_self dX6_seatsIn_18 rfl (fun x2 => ?_)
    refine nx_iload_n rfl dX6_seatsIn_19 rfl ?_
    refine nx_seq (C1 := fun s3 : Int32 => .inl (29, [some (.ref w), some (.int a1), some (.int s3), some (.int s1.2)], [], (wW Γ M0 c f))) ?_ (fun s3 => ?_)
    · refine nx_icmp_ne (t := 29) dX6_seatsIn_20 (by decide) rfl ?_ ?_
      · obtain ⟨_, _⟩ := s1
        exact nx_leaf rfl
      · refine nx_iload_n rfl dX6_seatsIn_23 rfl ?_
        refine nx_iconst dX6_seatsIn_24 rfl ?_
        refine nx_iload_n rfl dX6_seatsIn_25 rfl ?_
        refine nx_ishl dX6_seatsIn_26 rfl ?_
        refine nx_ior dX6_seatsIn_27 rfl ?_
        refine nx_istore_n [some (.ref w), some (.int a1), some (.int (s1.1 ||| ((iz 1) <<< (s1.2 &&& 31)))), some (.int s1.2)] dX6_seatsIn_28 rfl (Nat.le_of_ble_eq_true rfl) rfl rfl ?_
        obtain ⟨_, _⟩ := s1
        exact nx_leaf rfl
    refine nx_iinc [some (.ref w), some (.int a1), some (.int s3), some (.int (s1.2 + iz 1))] dX6_seatsIn_29 rfl rfl (Nat.le_of_ble_eq_true rfl) rfl rfl ?_
    refine nx_goto (q := 4) dX6_seatsIn_32 (by decide) ?_
    obtain ⟨_, _⟩ := s1
    exact nx_leaf rfl
set_option maxRecDepth 4000 in
theorem jW_seatsIn {Γ : nx_G} {M0 : nx_M} {w c : Nat} (hw : M0.1 w = some (.inr (6, [.ref c]))) (hc : w ≠ c) (u : Nat) (f : (Nat → Int32)) (a1 : Int32)   (X : nx_X) (Z : nx_Z) : nx_J Γ X (RX6, cX6_seatsIn, 4, (some .int), "seatsIn", 1) Z (fun r0 : Int32 => .inr (some (.int r0), (wW Γ M0 c f))) (.inl (0, [some (.ref w), some (.int a1), none, none], [], (wW Γ M0 c f))) (fW_seatsIn u f a1) := by
  unfold fW_seatsIn
  refine nx_iconst dX6_seatsIn_0 rfl ?_
  refine nx_istore_n [some (.ref w), some (.int a1), some (.int (iz 0)), none] dX6_seatsIn_1 rfl (Nat.le_of_ble_eq_true rfl) rfl rfl ?_
  refine nx_iconst dX6_seatsIn_2 rfl ?_
  refine nx_istore_n [some (.ref w), some (.int a1), some (.int (iz 0)), some (.int (iz 0))] dX6_seatsIn_3 rfl (Nat.le_of_ble_eq_true rfl) rfl rfl ?_
  refine nx_seq (C1 := fun e4 : Int32 => .inl (35, [some (.ref w), some (.int a1), some (.int e4), none], [], (wW Γ M0 c f))) (nx_loop (C1 := fun s1 : Int32 × Int32 => .inl (4, [some (.ref w), some (.int a1), some (.int s1.1), some (.int s1.2)], [], (wW Γ M0 c f))) (fun s1 => jW_seatsIn_4 hw hc f a1 X Z s1) ((iz 0), (iz 0))) (fun e4 => ?_)
  refine nx_iload_n rfl dX6_seatsIn_35 rfl ?_
  exact nx_iret dX6_seatsIn_36 rfl rfl
theorem cW_seatsIn (l : Launch) {Γ : nx_G} {M0 : nx_M} {w c : Nat} (hw : M0.1 w = some (.inr (6, [.ref c]))) (hc : w ≠ c) {u : Nat} {f : (Nat → Int32)} {a1 : Int32} {r : Int32}  (h : fW_seatsIn u f a1 = some r) : nx_Ct l Γ 1 yX6_seatsIn cX6_seatsIn 4 (some .int) [.ref w, .int a1] (wW Γ M0 c f) (some (.int r), (wW Γ M0 c f)) :=
  nx_ct (out := fun r0 : Int32 => (some (.int r0), (wW Γ M0 c f))) [some (.ref w), some (.int a1), none, none] pn_RX6 h (Nat.le_of_ble_eq_true rfl) rfl (fun X Z _ => jW_seatsIn hw hc u f a1 X Z)
theorem dX6_lowestLeaning_0 : decode cX6_lowestLeaning 0 = .ok (.aload_n 0, 1) := by decide +kernel
theorem dX6_lowestLeaning_1 : decode cX6_lowestLeaning 1 = .ok (.iconst 4, 1) := by decide +kernel
theorem dX6_lowestLeaning_2 : decode cX6_lowestLeaning 2 = .ok (.invokevirtual 159, 3) := by decide +kernel
theorem dX6_lowestLeaning_5 : decode cX6_lowestLeaning 5 = .ok (.istore_n 1, 1) := by decide +kernel
theorem dX6_lowestLeaning_6 : decode cX6_lowestLeaning 6 = .ok (.iconst 0, 1) := by decide +kernel
theorem dX6_lowestLeaning_7 : decode cX6_lowestLeaning 7 = .ok (.istore_n 2, 1) := by decide +kernel
theorem dX6_lowestLeaning_8 : decode cX6_lowestLeaning 8 = .ok (.iload_n 2, 1) := by decide +kernel
theorem dX6_lowestLeaning_9 : decode cX6_lowestLeaning 9 = .ok (.bipush 8, 2) := by decide +kernel
theorem dX6_lowestLeaning_11 : decode cX6_lowestLeaning 11 = .ok (.if_icmp .ge 25, 3) := by decide +kernel
theorem dX6_lowestLeaning_14 : decode cX6_lowestLeaning 14 = .ok (.aload_n 0, 1) := by decide +kernel
theorem dX6_lowestLeaning_15 : decode cX6_lowestLeaning 15 = .ok (.getfield 11, 3) := by decide +kernel
theorem dX6_lowestLeaning_18 : decode cX6_lowestLeaning 18 = .ok (.bipush 64, 2) := by decide +kernel
theorem dX6_lowestLeaning_20 : decode cX6_lowestLeaning 20 = .ok (.iload_n 2, 1) := by decide +kernel
theorem dX6_lowestLeaning_21 : decode cX6_lowestLeaning 21 = .ok (.iadd, 1) := by decide +kernel
theorem dX6_lowestLeaning_22 : decode cX6_lowestLeaning 22 = .ok (.iaload, 1) := by decide +kernel
theorem dX6_lowestLeaning_23 : decode cX6_lowestLeaning 23 = .ok (.iload_n 1, 1) := by decide +kernel
theorem dX6_lowestLeaning_24 : decode cX6_lowestLeaning 24 = .ok (.iand, 1) := by decide +kernel
theorem dX6_lowestLeaning_25 : decode cX6_lowestLeaning 25 = .ok (.ifCond .eq 5, 3) := by decide +kernel
theorem dX6_lowestLeaning_28 : decode cX6_lowestLeaning 28 = .ok (.iload_n 2, 1) := by decide +kernel
theorem dX6_lowestLeaning_29 : decode cX6_lowestLeaning 29 = .ok (.ireturn, 1) := by decide +kernel
theorem dX6_lowestLeaning_30 : decode cX6_lowestLeaning 30 = .ok (.iinc 2 1, 3) := by decide +kernel
theorem dX6_lowestLeaning_33 : decode cX6_lowestLeaning 33 = .ok (.goto (-25), 3) := by decide +kernel
theorem dX6_lowestLeaning_36 : decode cX6_lowestLeaning 36 = .ok (.iconst (-1), 1) := by decide +kernel
theorem dX6_lowestLeaning_37 : decode cX6_lowestLeaning 37 = .ok (.ireturn, 1) := by decide +kernel
def fW_lowestLeaning_8 (f : (Nat → Int32)) (x1 : Int32) (s2 : Int32) : Option ((Int32) ⊕ ((Unit) ⊕ (Int32))) :=
  if (iz 8) ≤ s2 then
    some (.inr (.inl ()))
  else
    (nx_rd 514 f ((iz 64) + s2)).bind fun x3 =>
    if (x3 &&& x1) = iz 0 then
      some (.inl (s2 + iz 1))
    else
      some (.inr (.inr s2))
def fW_lowestLeaning (u : Nat) (f : (Nat → Int32)) : Option (Int32) :=
  (fW_seatsIn u f (iz 4)).bind fun x1 =>
  (nx_iter u (fW_lowestLeaning_8 f x1) (iz 0)).bind (Sum.elim (fun e4 =>
    some (iz (-1)))
    (fun r0 => some r0))
set_option maxRecDepth 4000 in
theorem jW_lowestLeaning_8 {Γ : nx_G} {M0 : nx_M} {w c : Nat} (hw : M0.1 w = some (.inr (6, [.ref c]))) (hc : w ≠ c) (f : (Nat → Int32)) (x1 : Int32)   (X : nx_X) (Z : nx_Z) (s2 : Int32) : nx_J Γ X (RX6, cX6_lowestLeaning, 3, (some .int), "lowestLeaning", 2) Z (Sum.elim (fun s2 : Int32 => .inl (8, [some (.ref w), some (.int x1), some (.int s2)], [], (wW Γ M0 c f))) (Sum.elim (fun e4 : Unit => .inl (36, [some (.ref w), some (.int x1), none], [], (wW Γ M0 c f))) (fun r0 : Int32 => .inr (some (.int r0), (wW Γ M0 c f))))) (.inl (8, [some (.ref w), some (.int x1), some (.int s2)], [], (wW Γ M0 c f))) (fW_lowestLeaning_8 f x1 s2) := by
  unfold fW_lowestLeaning_8
  refine nx_iload_n rfl dX6_lowestLeaning_8 rfl ?_
  refine nx_bipush (by decide +kernel) dX6_lowestLeaning_9 rfl ?_
  refine nx_icmp_ge (t := 36) dX6_lowestLeaning_11 (by decide) rfl ?_ ?_
  · refine nx_weak (ls' := [some (.ref w), some (.int x1), none]) (nx_wk_s (nx_wk_s (nx_wk_n nx_wk_e))) ?_
    exact nx_leaf rfl
  · refine nx_aload_n rfl dX6_lowestLeaning_14 rfl ?_
    refine nx_getf fl_6_11 ((nx_put_ne hc).trans hw) rfl dX6_lowestLeaning_15 rfl ?_
    refine nx_bipush (by decide +kernel) dX6_lowestLeaning_18 rfl ?_
    refine nx_iload_n rfl dX6_lowestLeaning_20 rfl ?_
    refine nx_iadd dX6_lowestLeaning_21 rfl ?_
    refine nx_iald nx_put_self dX6_lowestLeaning_22 rfl (fun x3 => ?_)
    refine nx_iload_n rfl dX6_lowestLeaning_23 rfl ?_
    refine nx_iand dX6_lowestLeaning_24 rfl ?_
    refine nx_if_eq (t := 30) dX6_lowestLeaning_25 (by decide) rfl ?_ ?_
    · refine nx_iinc [some (.ref w), some (.int x1), some (.int (s2 + iz 1))] dX6_lowestLeaning_30 rfl rfl (Nat.le_of_ble_eq_true rfl) rfl rfl ?_
      refine nx_goto (q := 8) dX6_lowestLeaning_33 (by decide) ?_
      exact nx_leaf rfl
    · refine nx_iload_n rfl dX6_lowestLeaning_28 rfl ?_
      exact nx_iret dX6_lowestLeaning_29 rfl rfl
set_option maxRecDepth 4000 in
theorem jW_lowestLeaning {Γ : nx_G} {M0 : nx_M} {w c : Nat} (hw : M0.1 w = some (.inr (6, [.ref c]))) (hc : w ≠ c) (u : Nat) (f : (Nat → Int32))   (X : nx_X) (Z : nx_Z) : nx_J Γ X (RX6, cX6_lowestLeaning, 3, (some .int), "lowestLeaning", 2) Z (fun r0 : Int32 => .inr (some (.int r0), (wW Γ M0 c f))) (.inl (0, [some (.ref w), none, none], [], (wW Γ M0 c f))) (fW_lowestLeaning u f) := by
  unfold fW_lowestLeaning
  refine nx_aload_n rfl dX6_lowestLeaning_0 rfl ?_
  refine nx_iconst dX6_lowestLeaning_1 rfl ?_
  refine nx_callVr [.int (iz 4)] (fun r => .int r) (fun _ => (wW Γ M0 c f)) cw_6_159 cv_X6_seatsIn (fun r e => cW_seatsIn X.2.1 hw hc e) ((nx_put_ne hc).trans hw) rfl rfl (Nat.le_of_ble_eq_true rfl) (Nat.le_of_ble_eq_true rfl) dX6_lowestLeaning_2 rfl (fun x1 => ?_)
  refine nx_istore_n [some (.ref w), some (.int x1), none] dX6_lowestLeaning_5 rfl (Nat.le_of_ble_eq_true rfl) rfl rfl ?_
  refine nx_iconst dX6_lowestLeaning_6 rfl ?_
  refine nx_istore_n [some (.ref w), some (.int x1), some (.int (iz 0))] dX6_lowestLeaning_7 rfl (Nat.le_of_ble_eq_true rfl) rfl rfl ?_
  refine nx_seqS (Ca := fun e4 : Unit => .inl (36, [some (.ref w), some (.int x1), none], [], (wW Γ M0 c f))) (Cb := fun r0 : Int32 => .inr (some (.int r0), (wW Γ M0 c f))) (nx_loop (C1 := fun s2 : Int32 => .inl (8, [some (.ref w), some (.int x1), some (.int s2)], [], (wW Γ M0 c f))) (fun s2 => jW_lowestLeaning_8 hw hc f x1 X Z s2) (iz 0)) (fun e4 => ?_) (fun r0 => ?_)
  · refine nx_iconst dX6_lowestLeaning_36 rfl ?_
    exact nx_iret dX6_lowestLeaning_37 rfl rfl
  · exact nx_leaf rfl
theorem cW_lowestLeaning (l : Launch) {Γ : nx_G} {M0 : nx_M} {w c : Nat} (hw : M0.1 w = some (.inr (6, [.ref c]))) (hc : w ≠ c) {u : Nat} {f : (Nat → Int32)} {r : Int32}  (h : fW_lowestLeaning u f = some r) : nx_Ct l Γ 2 yX6_lowestLeaning cX6_lowestLeaning 3 (some .int) [.ref w] (wW Γ M0 c f) (some (.int r), (wW Γ M0 c f)) :=
  nx_ct (out := fun r0 : Int32 => (some (.int r0), (wW Γ M0 c f))) [some (.ref w), none, none] pn_RX6 h (Nat.le_of_ble_eq_true rfl) rfl (fun X Z _ => jW_lowestLeaning hw hc u f X Z)
theorem dX6_fallWithAll_0 : decode cX6_fallWithAll 0 = .ok (.iconst 0, 1) := by decide +kernel
theorem dX6_fallWithAll_1 : decode cX6_fallWithAll 1 = .ok (.istore_n 2, 1) := by decide +kernel
theorem dX6_fallWithAll_2 : decode cX6_fallWithAll 2 = .ok (.iload_n 1, 1) := by decide +kernel
theorem dX6_fallWithAll_3 : decode cX6_fallWithAll 3 = .ok (.istore_n 3, 1) := by decide +kernel
theorem dX6_fallWithAll_4 : decode cX6_fallWithAll 4 = .ok (.iconst 0, 1) := by decide +kernel
theorem dX6_fallWithAll_5 : decode cX6_fallWithAll 5 = .ok (.istore 4, 2) := by decide +kernel
theorem dX6_fallWithAll_7 : decode cX6_fallWithAll 7 = .ok (.iload 4, 2) := by decide +kernel
theorem dX6_fallWithAll_9 : decode cX6_fallWithAll 9 = .ok (.bipush 8, 2) := by decide +kernel
theorem dX6_fallWithAll_11 : decode cX6_fallWithAll 11 = .ok (.if_icmp .ge 84, 3) := by decide +kernel
theorem dX6_fallWithAll_14 : decode cX6_fallWithAll 14 = .ok (.iload_n 3, 1) := by decide +kernel
theorem dX6_fallWithAll_15 : decode cX6_fallWithAll 15 = .ok (.bipush 8, 2) := by decide +kernel
theorem dX6_fallWithAll_17 : decode cX6_fallWithAll 17 = .ok (.invokestatic 33, 3) := by decide +kernel
theorem dX6_fallWithAll_20 : decode cX6_fallWithAll 20 = .ok (.ifCond .eq 75, 3) := by decide +kernel
theorem dX6_fallWithAll_23 : decode cX6_fallWithAll 23 = .ok (.aload_n 0, 1) := by decide +kernel
theorem dX6_fallWithAll_24 : decode cX6_fallWithAll 24 = .ok (.getfield 11, 3) := by decide +kernel
theorem dX6_fallWithAll_27 : decode cX6_fallWithAll 27 = .ok (.bipush 40, 2) := by decide +kernel
theorem dX6_fallWithAll_29 : decode cX6_fallWithAll 29 = .ok (.iload_n 3, 1) := by decide +kernel
theorem dX6_fallWithAll_30 : decode cX6_fallWithAll 30 = .ok (.iadd, 1) := by decide +kernel
theorem dX6_fallWithAll_31 : decode cX6_fallWithAll 31 = .ok (.iconst 4, 1) := by decide +kernel
theorem dX6_fallWithAll_32 : decode cX6_fallWithAll 32 = .ok (.iastore, 1) := by decide +kernel
theorem dX6_fallWithAll_33 : decode cX6_fallWithAll 33 = .ok (.aload_n 0, 1) := by decide +kernel
theorem dX6_fallWithAll_34 : decode cX6_fallWithAll 34 = .ok (.getfield 11, 3) := by decide +kernel
theorem dX6_fallWithAll_37 : decode cX6_fallWithAll 37 = .ok (.bipush 64, 2) := by decide +kernel
theorem dX6_fallWithAll_39 : decode cX6_fallWithAll 39 = .ok (.iload_n 3, 1) := by decide +kernel
theorem dX6_fallWithAll_40 : decode cX6_fallWithAll 40 = .ok (.iadd, 1) := by decide +kernel
theorem dX6_fallWithAll_41 : decode cX6_fallWithAll 41 = .ok (.iconst 0, 1) := by decide +kernel
theorem dX6_fallWithAll_42 : decode cX6_fallWithAll 42 = .ok (.iastore, 1) := by decide +kernel
theorem dX6_fallWithAll_43 : decode cX6_fallWithAll 43 = .ok (.iconst 0, 1) := by decide +kernel
theorem dX6_fallWithAll_44 : decode cX6_fallWithAll 44 = .ok (.istore 5, 2) := by decide +kernel
theorem dX6_fallWithAll_46 : decode cX6_fallWithAll 46 = .ok (.iload 5, 2) := by decide +kernel
theorem dX6_fallWithAll_48 : decode cX6_fallWithAll 48 = .ok (.bipush 6, 2) := by decide +kernel
theorem dX6_fallWithAll_50 : decode cX6_fallWithAll 50 = .ok (.if_icmp .ge 16, 3) := by decide +kernel
theorem dX6_fallWithAll_53 : decode cX6_fallWithAll 53 = .ok (.aload_n 0, 1) := by decide +kernel
theorem dX6_fallWithAll_54 : decode cX6_fallWithAll 54 = .ok (.iload 5, 2) := by decide +kernel
theorem dX6_fallWithAll_56 : decode cX6_fallWithAll 56 = .ok (.iload_n 3, 1) := by decide +kernel
theorem dX6_fallWithAll_57 : decode cX6_fallWithAll 57 = .ok (.invokevirtual 153, 3) := by decide +kernel
theorem dX6_fallWithAll_60 : decode cX6_fallWithAll 60 = .ok (.iinc 5 1, 3) := by decide +kernel
theorem dX6_fallWithAll_63 : decode cX6_fallWithAll 63 = .ok (.goto (-17), 3) := by decide +kernel
theorem dX6_fallWithAll_66 : decode cX6_fallWithAll 66 = .ok (.aload_n 0, 1) := by decide +kernel
theorem dX6_fallWithAll_67 : decode cX6_fallWithAll 67 = .ok (.iconst 5, 1) := by decide +kernel
theorem dX6_fallWithAll_68 : decode cX6_fallWithAll 68 = .ok (.iload_n 3, 1) := by decide +kernel
theorem dX6_fallWithAll_69 : decode cX6_fallWithAll 69 = .ok (.aload_n 0, 1) := by decide +kernel
theorem dX6_fallWithAll_70 : decode cX6_fallWithAll 70 = .ok (.getfield 11, 3) := by decide +kernel
theorem dX6_fallWithAll_73 : decode cX6_fallWithAll 73 = .ok (.bipush 48, 2) := by decide +kernel
theorem dX6_fallWithAll_75 : decode cX6_fallWithAll 75 = .ok (.iload_n 3, 1) := by decide +kernel
theorem dX6_fallWithAll_76 : decode cX6_fallWithAll 76 = .ok (.iadd, 1) := by decide +kernel
theorem dX6_fallWithAll_77 : decode cX6_fallWithAll 77 = .ok (.iaload, 1) := by decide +kernel
theorem dX6_fallWithAll_78 : decode cX6_fallWithAll 78 = .ok (.invokevirtual 115, 3) := by decide +kernel
theorem dX6_fallWithAll_81 : decode cX6_fallWithAll 81 = .ok (.iinc 2 1, 3) := by decide +kernel
theorem dX6_fallWithAll_84 : decode cX6_fallWithAll 84 = .ok (.aload_n 0, 1) := by decide +kernel
theorem dX6_fallWithAll_85 : decode cX6_fallWithAll 85 = .ok (.invokevirtual 156, 3) := by decide +kernel
theorem dX6_fallWithAll_88 : decode cX6_fallWithAll 88 = .ok (.istore_n 3, 1) := by decide +kernel
theorem dX6_fallWithAll_89 : decode cX6_fallWithAll 89 = .ok (.iinc 4 1, 3) := by decide +kernel
theorem dX6_fallWithAll_92 : decode cX6_fallWithAll 92 = .ok (.goto (-85), 3) := by decide +kernel
theorem dX6_fallWithAll_95 : decode cX6_fallWithAll 95 = .ok (.aload_n 0, 1) := by decide +kernel
theorem dX6_fallWithAll_96 : decode cX6_fallWithAll 96 = .ok (.getfield 11, 3) := by decide +kernel
theorem dX6_fallWithAll_99 : decode cX6_fallWithAll 99 = .ok (.bipush 6, 2) := by decide +kernel
theorem dX6_fallWithAll_101 : decode cX6_fallWithAll 101 = .ok (.dup2, 1) := by decide +kernel
theorem dX6_fallWithAll_102 : decode cX6_fallWithAll 102 = .ok (.iaload, 1) := by decide +kernel
theorem dX6_fallWithAll_103 : decode cX6_fallWithAll 103 = .ok (.iload_n 2, 1) := by decide +kernel
theorem dX6_fallWithAll_104 : decode cX6_fallWithAll 104 = .ok (.iadd, 1) := by decide +kernel
theorem dX6_fallWithAll_105 : decode cX6_fallWithAll 105 = .ok (.iastore, 1) := by decide +kernel
theorem dX6_fallWithAll_106 : decode cX6_fallWithAll 106 = .ok (.iload_n 2, 1) := by decide +kernel
theorem dX6_fallWithAll_107 : decode cX6_fallWithAll 107 = .ok (.ireturn, 1) := by decide +kernel
def fW_fallWithAll_46 (u : Nat) (s1 : Int32 × Int32 × Int32 × (Nat → Int32)) (s5 : Int32 × (Nat → Int32)) : Option ((Int32 × (Nat → Int32)) ⊕ ((Nat → Int32))) :=
  if (iz 6) ≤ s5.1 then
    some (.inr s5.2)
  else
    (fW_dropOwn u s5.2 s5.1 s1.2.1).bind fun g6 =>
    some (.inl ((s5.1 + iz 1), g6))
def fW_fallWithAll_7 (u : Nat) (s1 : Int32 × Int32 × Int32 × (Nat → Int32)) : Option ((Int32 × Int32 × Int32 × (Nat → Int32)) ⊕ (Int32 × (Nat → Int32))) :=
  if (iz 8) ≤ s1.2.2.1 then
    some (.inr (s1.1, s1.2.2.2))
  else
    (fL_within u s1.2.1 (iz 8)).bind fun b2 =>
    if b2 = true then
      (nx_wr 514 s1.2.2.2 ((iz 40) + s1.2.1) (iz 4)).bind fun f3 =>
      (nx_wr 514 f3 ((iz 64) + s1.2.1) (iz 0)).bind fun f4 =>
      (nx_iter u (fW_fallWithAll_46 u s1) ((iz 0), f4)).bind fun e7 =>
      (nx_rd 514 e7 ((iz 48) + s1.2.1)).bind fun x8 =>
      (fW_note u e7 (iz 5) s1.2.1 x8).bind fun g9 =>
      (fW_lowestLeaning u g9).bind fun x10 =>
      some (.inl ((s1.1 + iz 1), x10, (s1.2.2.1 + iz 1), g9))
    else
      some (.inr (s1.1, s1.2.2.2))
def fW_fallWithAll (u : Nat) (f : (Nat → Int32)) (a1 : Int32) : Option (Int32 × (Nat → Int32)) :=
  (nx_iter u (fW_fallWithAll_7 u) ((iz 0), a1, (iz 0), f)).bind fun e11 =>
  (nx_rd 514 e11.2 (iz 6)).bind fun x12 =>
  (nx_wr 514 e11.2 (iz 6) (x12 + e11.1)).bind fun f13 =>
  some (e11.1, f13)
set_option maxRecDepth 4000 in
theorem jW_fallWithAll_46 {Γ : nx_G} {M0 : nx_M} {w c : Nat} (hw : M0.1 w = some (.inr (6, [.ref c]))) (hc : w ≠ c) (u : Nat) (a1 : Int32) (s1 : Int32 × Int32 × Int32 × (Nat → Int32))   (X : nx_X) (Z : nx_Z) (s5 : Int32 × (Nat → Int32)) : nx_J Γ X (RX6, cX6_fallWithAll, 6, (some .int), "fallWithAll", 3) Z (Sum.elim (fun s5 : Int32 × (Nat → Int32) => .inl (46, [some (.ref w), some (.int a1), some (.int s1.1), some (.int s1.2.1), some (.int s1.2.2.1), some (.int s5.1)], [], (wW Γ M0 c s5.2))) (fun e7 : (Nat → Int32) => .inl (66, [some (.ref w), some (.int a1), some (.int s1.1), some (.int s1.2.1), some (.int s1.2.2.1), none], [], (wW Γ M0 c e7)))) (.inl (46, [some (.ref w), some (.int a1), some (.int s1.1), some (.int s1.2.1), some (.int s1.2.2.1), some (.int s5.1)], [], (wW Γ M0 c s5.2))) (fW_fallWithAll_46 u s1 s5) := by
  unfold fW_fallWithAll_46
  refine nx_iload rfl dX6_fallWithAll_46 rfl ?_
  refine nx_bipush (by decide +kernel) dX6_fallWithAll_48 rfl ?_
  refine nx_icmp_ge (t := 66) dX6_fallWithAll_50 (by decide) rfl ?_ ?_
  · refine nx_weak (ls' := [some (.ref w), some (.int a1), some (.int s1.1), some (.int s1.2.1), some (.int s1.2.2.1), none]) (nx_wk_s (nx_wk_s (nx_wk_s (nx_wk_s (nx_wk_s (nx_wk_n nx_wk_e)))))) ?_
    obtain ⟨_, _, _, _⟩ := s1
    obtain ⟨_, _⟩ := s5
    exact nx_leaf rfl
  · refine nx_aload_n rfl dX6_fallWithAll_53 rfl ?_
    refine nx_iload rfl dX6_fallWithAll_54 rfl ?_
    refine nx_iload_n rfl dX6_fallWithAll_56 rfl ?_
    refine nx_callVv [.int s5.1, .int s1.2.1] (fun r => (wW Γ M0 c r)) cw_6_153 cv_X6_dropOwn (fun r e => cW_dropOwn X.2.1 hw hc e) ((nx_put_ne hc).trans hw) rfl rfl (Nat.le_of_ble_eq_true rfl) (Nat.le_of_ble_eq_true rfl) dX6_fallWithAll_57 rfl (fun g6 => ?_)
    refine nx_iinc [some (.ref w), some (.int a1), some (.int s1.1), some (.int s1.2.1), some (.int s1.2.2.1), some (.int (s5.1 + iz 1))] dX6_fallWithAll_60 rfl rfl (Nat.le_of_ble_eq_true rfl) rfl rfl ?_
    refine nx_goto (q := 46) dX6_fallWithAll_63 (by decide) ?_
    obtain ⟨_, _, _, _⟩ := s1
    obtain ⟨_, _⟩ := s5
    exact nx_leaf rfl
set_option maxRecDepth 4000 in
theorem jW_fallWithAll_7 {Γ : nx_G} {M0 : nx_M} {w c : Nat} (hw : M0.1 w = some (.inr (6, [.ref c]))) (hc : w ≠ c) (u : Nat) (a1 : Int32)   (X : nx_X) (Z : nx_Z) (s1 : Int32 × Int32 × Int32 × (Nat → Int32)) : nx_J Γ X (RX6, cX6_fallWithAll, 6, (some .int), "fallWithAll", 3) Z (Sum.elim (fun s1 : Int32 × Int32 × Int32 × (Nat → Int32) => .inl (7, [some (.ref w), some (.int a1), some (.int s1.1), some (.int s1.2.1), some (.int s1.2.2.1), none], [], (wW Γ M0 c s1.2.2.2))) (fun e11 : Int32 × (Nat → Int32) => .inl (95, [some (.ref w), some (.int a1), some (.int e11.1), none, none, none], [], (wW Γ M0 c e11.2)))) (.inl (7, [some (.ref w), some (.int a1), some (.int s1.1), some (.int s1.2.1), some (.int s1.2.2.1), none], [], (wW Γ M0 c s1.2.2.2))) (fW_fallWithAll_7 u s1) := by
  unfold fW_fallWithAll_7
  refine nx_iload rfl dX6_fallWithAll_7 rfl ?_
  refine nx_bipush (by decide +kernel) dX6_fallWithAll_9 rfl ?_
  refine nx_icmp_ge (t := 95) dX6_fallWithAll_11 (by decide) rfl ?_ ?_
  · refine nx_weak (ls' := [some (.ref w), some (.int a1), some (.int s1.1), none, none, none]) (nx_wk_s (nx_wk_s (nx_wk_s (nx_wk_n (nx_wk_n (nx_wk_n nx_wk_e)))))) ?_
    obtain ⟨_, _, _, _⟩ := s1
    exact nx_leaf rfl
  · refine nx_iload_n rfl dX6_fallWithAll_14 rfl ?_
    refine nx_bipush (by decide +kernel) dX6_fallWithAll_15 rfl ?_
    refine nx_callSr [.int s1.2.1, .int (iz 8)] (fun r => .int (bz r)) (fun _ => (wW Γ M0 c s1.2.2.2)) cw_6_33 wd_442 (fun r e => cL_within X.2.1  e) rfl rfl (Nat.le_of_ble_eq_true rfl) (Nat.le_of_ble_eq_true rfl) dX6_fallWithAll_17 rfl (fun b2 => ?_)
    refine nx_ifz_eq (t := 95) dX6_fallWithAll_20 (by decide) rfl ?_ ?_
    · refine nx_weak (ls' := [some (.ref w), some (.int a1), some (.int s1.1), none, none, none]) (nx_wk_s (nx_wk_s (nx_wk_s (nx_wk_n (nx_wk_n (nx_wk_n nx_wk_e)))))) ?_
      obtain ⟨_, _, _, _⟩ := s1
      exact nx_leaf rfl
    · refine nx_aload_n rfl dX6_fallWithAll_23 rfl ?_
      refine nx_getf fl_6_11 ((nx_put_ne hc).trans hw) rfl dX6_fallWithAll_24 rfl ?_
      refine nx_bipush (by decide +kernel) dX6_fallWithAll_27 rfl ?_
      refine nx_iload_n rfl dX6_fallWithAll_29 rfl ?_
      refine nx_iadd dX6_fallWithAll_30 rfl ?_
      refine nx_iconst dX6_fallWithAll_31 rfl ?_
      refine w_iast dX6_fallWithAll_32 rfl (fun f3 => ?_)
      refine nx_aload_n rfl dX6_fallWithAll_33 rfl ?_
      refine nx_getf fl_6_11 ((nx_put_ne hc).trans hw) rfl dX6_fallWithAll_34 rfl ?_
      refine nx_bipush (by decide +kernel) dX6_fallWithAll_37 rfl ?_
      refine nx_iload_n rfl dX6_fallWithAll_39 rfl ?_
      refine nx_iadd dX6_fallWithAll_40 rfl ?_
      refine nx_iconst dX6_fallWithAll_41 rfl ?_
      refine w_iast dX6_fallWithAll_42 rfl (fun f4 => ?_)
      refine nx_iconst dX6_fallWithAll_43 rfl ?_
      refine nx_istore [some (.ref w), some (.int a1), some (.int s1.1), some (.int s1.2.1), some (.int s1.2.2.1), some (.int (iz 0))] dX6_fallWithAll_44 rfl (Nat.le_of_ble_eq_true rfl) rfl rfl ?_
      refine nx_seq (C1 := fun e7 : (Nat → Int32) => .inl (66, [some (.ref w), some (.int a1), some (.int s1.1), some (.int s1.2.1), some (.int s1.2.2.1), none], [], (wW Γ M0 c e7))) (nx_loop (C1 := fun s5 : Int32 × (Nat → Int32) => .inl (46, [some (.ref w), some (.int a1), some (.int s1.1), some (.int s1.2.1), some (.int s1.2.2.1), some (.int s5.1)], [], (wW Γ M0 c s5.2))) (fun s5 => jW_fallWithAll_46 hw hc u a1 s1 X Z s5) ((iz 0), f4)) (fun e7 => ?_)
      refine nx_aload_n rfl dX6_fallWithAll_66 rfl ?_
      refine nx_iconst dX6_fallWithAll_67 rfl ?_
      refine nx_iload_n rfl dX6_fallWithAll_68 rfl ?_
      refine nx_aload_n rfl dX6_fallWithAll_69 rfl ?_
      refine nx_getf fl_6_11 ((nx_put_ne hc).trans hw) rfl dX6_fallWithAll_70 rfl ?_
      refine nx_bipush (by decide +kernel) dX6_fallWithAll_73 rfl ?_
      refine nx_iload_n rfl dX6_fallWithAll_75 rfl ?_
      refine nx_iadd dX6_fallWithAll_76 rfl ?_
      refine nx_iald nx_put_self dX6_fallWithAll_77 rfl (fun x8 => ?_)
      refine nx_callVv [.int (iz 5), .int s1.2.1, .int x8] (fun r => (wW Γ M0 c r)) cw_6_115 cv_X6_note (fun r e => cW_note X.2.1 hw hc e) ((nx_put_ne hc).trans hw) rfl rfl (Nat.le_of_ble_eq_true rfl) (Nat.le_of_ble_eq_true rfl) dX6_fallWithAll_78 rfl (fun g9 => ?_)
      refine nx_iinc [some (.ref w), some (.int a1), some (.int (s1.1 + iz 1)), some (.int s1.2.1), some (.int s1.2.2.1), none] dX6_fallWithAll_81 rfl rfl (Nat.le_of_ble_eq_true rfl) rfl rfl ?_
      refine nx_aload_n rfl dX6_fallWithAll_84 rfl ?_
      refine nx_callVr [] (fun r => .int r) (fun _ => (wW Γ M0 c g9)) cw_6_156 cv_X6_lowestLeaning (fun r e => cW_lowestLeaning X.2.1 hw hc e) ((nx_put_ne hc).trans hw) rfl rfl (Nat.le_of_ble_eq_true rfl) (Nat.le_of_ble_eq_true rfl) dX6_fallWithAll_85 rfl (fun x10 => ?_)
      refine nx_istore_n [some (.ref w), some (.int a1), some (.int (s1.1 + iz 1)), some (.int x10), some (.int s1.2.2.1), none] dX6_fallWithAll_88 rfl (Nat.le_of_ble_eq_true rfl) rfl rfl ?_
      refine nx_iinc [some (.ref w), some (.int a1), some (.int (s1.1 + iz 1)), some (.int x10), some (.int (s1.2.2.1 + iz 1)), none] dX6_fallWithAll_89 rfl rfl (Nat.le_of_ble_eq_true rfl) rfl rfl ?_
      refine nx_goto (q := 7) dX6_fallWithAll_92 (by decide) ?_
      obtain ⟨_, _, _, _⟩ := s1
      exact nx_leaf rfl
set_option maxRecDepth 4000 in
theorem jW_fallWithAll {Γ : nx_G} {M0 : nx_M} {w c : Nat} (hw : M0.1 w = some (.inr (6, [.ref c]))) (hc : w ≠ c) (u : Nat) (f : (Nat → Int32)) (a1 : Int32)   (X : nx_X) (Z : nx_Z) : nx_J Γ X (RX6, cX6_fallWithAll, 6, (some .int), "fallWithAll", 3) Z (fun r0 : Int32 × (Nat → Int32) => .inr (some (.int r0.1), (wW Γ M0 c r0.2))) (.inl (0, [some (.ref w), some (.int a1), none, none, none, none], [], (wW Γ M0 c f))) (fW_fallWithAll u f a1) := by
  unfold fW_fallWithAll
  refine nx_iconst dX6_fallWithAll_0 rfl ?_
  refine nx_istore_n [some (.ref w), some (.int a1), some (.int (iz 0)), none, none, none] dX6_fallWithAll_1 rfl (Nat.le_of_ble_eq_true rfl) rfl rfl ?_
  refine nx_iload_n rfl dX6_fallWithAll_2 rfl ?_
  refine nx_istore_n [some (.ref w), some (.int a1), some (.int (iz 0)), some (.int a1), none, none] dX6_fallWithAll_3 rfl (Nat.le_of_ble_eq_true rfl) rfl rfl ?_
  refine nx_iconst dX6_fallWithAll_4 rfl ?_
  refine nx_istore [some (.ref w), some (.int a1), some (.int (iz 0)), some (.int a1), some (.int (iz 0)), none] dX6_fallWithAll_5 rfl (Nat.le_of_ble_eq_true rfl) rfl rfl ?_
  refine nx_seq (C1 := fun e11 : Int32 × (Nat → Int32) => .inl (95, [some (.ref w), some (.int a1), some (.int e11.1), none, none, none], [], (wW Γ M0 c e11.2))) (nx_loop (C1 := fun s1 : Int32 × Int32 × Int32 × (Nat → Int32) => .inl (7, [some (.ref w), some (.int a1), some (.int s1.1), some (.int s1.2.1), some (.int s1.2.2.1), none], [], (wW Γ M0 c s1.2.2.2))) (fun s1 => jW_fallWithAll_7 hw hc u a1 X Z s1) ((iz 0), a1, (iz 0), f)) (fun e11 => ?_)
  refine nx_aload_n rfl dX6_fallWithAll_95 rfl ?_
  refine nx_getf fl_6_11 ((nx_put_ne hc).trans hw) rfl dX6_fallWithAll_96 rfl ?_
  refine nx_bipush (by decide +kernel) dX6_fallWithAll_99 rfl ?_
  refine nx_dup2 rfl rfl dX6_fallWithAll_101 rfl ?_
  refine nx_iald nx_put_self dX6_fallWithAll_102 rfl (fun x12 => ?_)
  refine nx_iload_n rfl dX6_fallWithAll_103 rfl ?_
  refine nx_iadd dX6_fallWithAll_104 rfl ?_
  refine w_iast dX6_fallWithAll_105 rfl (fun f13 => ?_)
  refine nx_iload_n rfl dX6_fallWithAll_106 rfl ?_
  exact nx_iret dX6_fallWithAll_107 rfl rfl
theorem cW_fallWithAll (l : Launch) {Γ : nx_G} {M0 : nx_M} {w c : Nat} (hw : M0.1 w = some (.inr (6, [.ref c]))) (hc : w ≠ c) {u : Nat} {f : (Nat → Int32)} {a1 : Int32} {r : Int32 × (Nat → Int32)}  (h : fW_fallWithAll u f a1 = some r) : nx_Ct l Γ 3 yX6_fallWithAll cX6_fallWithAll 6 (some .int) [.ref w, .int a1] (wW Γ M0 c f) (some (.int r.1), (wW Γ M0 c r.2)) :=
  nx_ct (out := fun r0 : Int32 × (Nat → Int32) => (some (.int r0.1), (wW Γ M0 c r0.2))) [some (.ref w), some (.int a1), none, none, none, none] pn_RX6 h (Nat.le_of_ble_eq_true rfl) rfl (fun X Z _ => jW_fallWithAll hw hc u f a1 X Z)
theorem dX6_addVersion_0 : decode cX6_addVersion 0 = .ok (.aload_n 0, 1) := by decide +kernel
theorem dX6_addVersion_1 : decode cX6_addVersion 1 = .ok (.getfield 11, 3) := by decide +kernel
theorem dX6_addVersion_4 : decode cX6_addVersion 4 = .ok (.bipush 48, 2) := by decide +kernel
theorem dX6_addVersion_6 : decode cX6_addVersion 6 = .ok (.iload_n 1, 1) := by decide +kernel
theorem dX6_addVersion_7 : decode cX6_addVersion 7 = .ok (.iadd, 1) := by decide +kernel
theorem dX6_addVersion_8 : decode cX6_addVersion 8 = .ok (.iaload, 1) := by decide +kernel
theorem dX6_addVersion_9 : decode cX6_addVersion 9 = .ok (.istore 4, 2) := by decide +kernel
theorem dX6_addVersion_11 : decode cX6_addVersion 11 = .ok (.iload_n 2, 1) := by decide +kernel
theorem dX6_addVersion_12 : decode cX6_addVersion 12 = .ok (.bipush 9, 2) := by decide +kernel
theorem dX6_addVersion_14 : decode cX6_addVersion 14 = .ok (.imul, 1) := by decide +kernel
theorem dX6_addVersion_15 : decode cX6_addVersion 15 = .ok (.istore 5, 2) := by decide +kernel
theorem dX6_addVersion_17 : decode cX6_addVersion 17 = .ok (.aload_n 0, 1) := by decide +kernel
theorem dX6_addVersion_18 : decode cX6_addVersion 18 = .ok (.getfield 11, 3) := by decide +kernel
theorem dX6_addVersion_21 : decode cX6_addVersion 21 = .ok (.sipush 232, 3) := by decide +kernel
theorem dX6_addVersion_24 : decode cX6_addVersion 24 = .ok (.iload_n 2, 1) := by decide +kernel
theorem dX6_addVersion_25 : decode cX6_addVersion 25 = .ok (.iadd, 1) := by decide +kernel
theorem dX6_addVersion_26 : decode cX6_addVersion 26 = .ok (.iaload, 1) := by decide +kernel
theorem dX6_addVersion_27 : decode cX6_addVersion 27 = .ok (.istore 6, 2) := by decide +kernel
theorem dX6_addVersion_29 : decode cX6_addVersion 29 = .ok (.iload 6, 2) := by decide +kernel
theorem dX6_addVersion_31 : decode cX6_addVersion 31 = .ok (.bipush 9, 2) := by decide +kernel
theorem dX6_addVersion_33 : decode cX6_addVersion 33 = .ok (.invokestatic 33, 3) := by decide +kernel
theorem dX6_addVersion_36 : decode cX6_addVersion 36 = .ok (.ifCond .ne 4, 3) := by decide +kernel
theorem dX6_addVersion_39 : decode cX6_addVersion 39 = .ok (.return_, 1) := by decide +kernel
theorem dX6_addVersion_40 : decode cX6_addVersion 40 = .ok (.iload 6, 2) := by decide +kernel
theorem dX6_addVersion_42 : decode cX6_addVersion 42 = .ok (.ifCond .le 46, 3) := by decide +kernel
theorem dX6_addVersion_45 : decode cX6_addVersion 45 = .ok (.aload_n 0, 1) := by decide +kernel
theorem dX6_addVersion_46 : decode cX6_addVersion 46 = .ok (.getfield 11, 3) := by decide +kernel
theorem dX6_addVersion_49 : decode cX6_addVersion 49 = .ok (.sipush 238, 3) := by decide +kernel
theorem dX6_addVersion_52 : decode cX6_addVersion 52 = .ok (.iload 5, 2) := by decide +kernel
theorem dX6_addVersion_54 : decode cX6_addVersion 54 = .ok (.iadd, 1) := by decide +kernel
theorem dX6_addVersion_55 : decode cX6_addVersion 55 = .ok (.iload 6, 2) := by decide +kernel
theorem dX6_addVersion_57 : decode cX6_addVersion 57 = .ok (.iadd, 1) := by decide +kernel
theorem dX6_addVersion_58 : decode cX6_addVersion 58 = .ok (.iconst 1, 1) := by decide +kernel
theorem dX6_addVersion_59 : decode cX6_addVersion 59 = .ok (.isub, 1) := by decide +kernel
theorem dX6_addVersion_60 : decode cX6_addVersion 60 = .ok (.iaload, 1) := by decide +kernel
theorem dX6_addVersion_61 : decode cX6_addVersion 61 = .ok (.iload 4, 2) := by decide +kernel
theorem dX6_addVersion_63 : decode cX6_addVersion 63 = .ok (.if_icmp .le 25, 3) := by decide +kernel
theorem dX6_addVersion_66 : decode cX6_addVersion 66 = .ok (.aload_n 0, 1) := by decide +kernel
theorem dX6_addVersion_67 : decode cX6_addVersion 67 = .ok (.iload 5, 2) := by decide +kernel
theorem dX6_addVersion_69 : decode cX6_addVersion 69 = .ok (.iload 6, 2) := by decide +kernel
theorem dX6_addVersion_71 : decode cX6_addVersion 71 = .ok (.iadd, 1) := by decide +kernel
theorem dX6_addVersion_72 : decode cX6_addVersion 72 = .ok (.iconst 1, 1) := by decide +kernel
theorem dX6_addVersion_73 : decode cX6_addVersion 73 = .ok (.isub, 1) := by decide +kernel
theorem dX6_addVersion_74 : decode cX6_addVersion 74 = .ok (.iload 5, 2) := by decide +kernel
theorem dX6_addVersion_76 : decode cX6_addVersion 76 = .ok (.iload 6, 2) := by decide +kernel
theorem dX6_addVersion_78 : decode cX6_addVersion 78 = .ok (.iadd, 1) := by decide +kernel
theorem dX6_addVersion_79 : decode cX6_addVersion 79 = .ok (.invokevirtual 138, 3) := by decide +kernel
theorem dX6_addVersion_82 : decode cX6_addVersion 82 = .ok (.iinc 6 (-1), 3) := by decide +kernel
theorem dX6_addVersion_85 : decode cX6_addVersion 85 = .ok (.goto (-45), 3) := by decide +kernel
theorem dX6_addVersion_88 : decode cX6_addVersion 88 = .ok (.aload_n 0, 1) := by decide +kernel
theorem dX6_addVersion_89 : decode cX6_addVersion 89 = .ok (.getfield 11, 3) := by decide +kernel
theorem dX6_addVersion_92 : decode cX6_addVersion 92 = .ok (.sipush 238, 3) := by decide +kernel
theorem dX6_addVersion_95 : decode cX6_addVersion 95 = .ok (.iload 5, 2) := by decide +kernel
theorem dX6_addVersion_97 : decode cX6_addVersion 97 = .ok (.iadd, 1) := by decide +kernel
theorem dX6_addVersion_98 : decode cX6_addVersion 98 = .ok (.iload 6, 2) := by decide +kernel
theorem dX6_addVersion_100 : decode cX6_addVersion 100 = .ok (.iadd, 1) := by decide +kernel
theorem dX6_addVersion_101 : decode cX6_addVersion 101 = .ok (.iload 4, 2) := by decide +kernel
theorem dX6_addVersion_103 : decode cX6_addVersion 103 = .ok (.iastore, 1) := by decide +kernel
theorem dX6_addVersion_104 : decode cX6_addVersion 104 = .ok (.aload_n 0, 1) := by decide +kernel
theorem dX6_addVersion_105 : decode cX6_addVersion 105 = .ok (.getfield 11, 3) := by decide +kernel
theorem dX6_addVersion_108 : decode cX6_addVersion 108 = .ok (.sipush 292, 3) := by decide +kernel
theorem dX6_addVersion_111 : decode cX6_addVersion 111 = .ok (.iload 5, 2) := by decide +kernel
theorem dX6_addVersion_113 : decode cX6_addVersion 113 = .ok (.iadd, 1) := by decide +kernel
theorem dX6_addVersion_114 : decode cX6_addVersion 114 = .ok (.iload 6, 2) := by decide +kernel
theorem dX6_addVersion_116 : decode cX6_addVersion 116 = .ok (.iadd, 1) := by decide +kernel
theorem dX6_addVersion_117 : decode cX6_addVersion 117 = .ok (.iload_n 3, 1) := by decide +kernel
theorem dX6_addVersion_118 : decode cX6_addVersion 118 = .ok (.iastore, 1) := by decide +kernel
theorem dX6_addVersion_119 : decode cX6_addVersion 119 = .ok (.aload_n 0, 1) := by decide +kernel
theorem dX6_addVersion_120 : decode cX6_addVersion 120 = .ok (.getfield 11, 3) := by decide +kernel
theorem dX6_addVersion_123 : decode cX6_addVersion 123 = .ok (.sipush 346, 3) := by decide +kernel
theorem dX6_addVersion_126 : decode cX6_addVersion 126 = .ok (.iload 5, 2) := by decide +kernel
theorem dX6_addVersion_128 : decode cX6_addVersion 128 = .ok (.iadd, 1) := by decide +kernel
theorem dX6_addVersion_129 : decode cX6_addVersion 129 = .ok (.iload 6, 2) := by decide +kernel
theorem dX6_addVersion_131 : decode cX6_addVersion 131 = .ok (.iadd, 1) := by decide +kernel
theorem dX6_addVersion_132 : decode cX6_addVersion 132 = .ok (.iload 4, 2) := by decide +kernel
theorem dX6_addVersion_134 : decode cX6_addVersion 134 = .ok (.iastore, 1) := by decide +kernel
theorem dX6_addVersion_135 : decode cX6_addVersion 135 = .ok (.aload_n 0, 1) := by decide +kernel
theorem dX6_addVersion_136 : decode cX6_addVersion 136 = .ok (.getfield 11, 3) := by decide +kernel
theorem dX6_addVersion_139 : decode cX6_addVersion 139 = .ok (.sipush 400, 3) := by decide +kernel
theorem dX6_addVersion_142 : decode cX6_addVersion 142 = .ok (.iload 5, 2) := by decide +kernel
theorem dX6_addVersion_144 : decode cX6_addVersion 144 = .ok (.iadd, 1) := by decide +kernel
theorem dX6_addVersion_145 : decode cX6_addVersion 145 = .ok (.iload 6, 2) := by decide +kernel
theorem dX6_addVersion_147 : decode cX6_addVersion 147 = .ok (.iadd, 1) := by decide +kernel
theorem dX6_addVersion_148 : decode cX6_addVersion 148 = .ok (.iload_n 1, 1) := by decide +kernel
theorem dX6_addVersion_149 : decode cX6_addVersion 149 = .ok (.iastore, 1) := by decide +kernel
theorem dX6_addVersion_150 : decode cX6_addVersion 150 = .ok (.aload_n 0, 1) := by decide +kernel
theorem dX6_addVersion_151 : decode cX6_addVersion 151 = .ok (.getfield 11, 3) := by decide +kernel
theorem dX6_addVersion_154 : decode cX6_addVersion 154 = .ok (.sipush 232, 3) := by decide +kernel
theorem dX6_addVersion_157 : decode cX6_addVersion 157 = .ok (.iload_n 2, 1) := by decide +kernel
theorem dX6_addVersion_158 : decode cX6_addVersion 158 = .ok (.iadd, 1) := by decide +kernel
theorem dX6_addVersion_159 : decode cX6_addVersion 159 = .ok (.dup2, 1) := by decide +kernel
theorem dX6_addVersion_160 : decode cX6_addVersion 160 = .ok (.iaload, 1) := by decide +kernel
theorem dX6_addVersion_161 : decode cX6_addVersion 161 = .ok (.iconst 1, 1) := by decide +kernel
theorem dX6_addVersion_162 : decode cX6_addVersion 162 = .ok (.iadd, 1) := by decide +kernel
theorem dX6_addVersion_163 : decode cX6_addVersion 163 = .ok (.iastore, 1) := by decide +kernel
theorem dX6_addVersion_164 : decode cX6_addVersion 164 = .ok (.return_, 1) := by decide +kernel
def fW_addVersion_40 (u : Nat) (a2 : Int32) (x1 : Int32) (s4 : Int32 × (Nat → Int32)) : Option ((Int32 × (Nat → Int32)) ⊕ (Int32 × (Nat → Int32))) :=
  if s4.1 ≤ iz 0 then
    some (.inr (s4.1, s4.2))
  else
    (nx_rd 514 s4.2 ((((iz 238) + (a2 * (iz 9))) + s4.1) - (iz 1))).bind fun x5 =>
    if x5 ≤ x1 then
      some (.inr (s4.1, s4.2))
    else
      (fW_moveVersion u s4.2 (((a2 * (iz 9)) + s4.1) - (iz 1)) ((a2 * (iz 9)) + s4.1)).bind fun g6 =>
      some (.inl ((s4.1 + iz (-1)), g6))
def fW_addVersion (u : Nat) (f : (Nat → Int32)) (a1 : Int32) (a2 : Int32) (a3 : Int32) : Option ((Nat → Int32)) :=
  (nx_rd 514 f ((iz 48) + a1)).bind fun x1 =>
  (nx_rd 514 f ((iz 232) + a2)).bind fun x2 =>
  (fL_within u x2 (iz 9)).bind fun b3 =>
  if b3 = true then
    (nx_iter u (fW_addVersion_40 u a2 x1) (x2, f)).bind fun e7 =>
    (nx_wr 514 e7.2 (((iz 238) + (a2 * (iz 9))) + e7.1) x1).bind fun f8 =>
    (nx_wr 514 f8 (((iz 292) + (a2 * (iz 9))) + e7.1) a3).bind fun f9 =>
    (nx_wr 514 f9 (((iz 346) + (a2 * (iz 9))) + e7.1) x1).bind fun f10 =>
    (nx_wr 514 f10 (((iz 400) + (a2 * (iz 9))) + e7.1) a1).bind fun f11 =>
    (nx_rd 514 f11 ((iz 232) + a2)).bind fun x12 =>
    (nx_wr 514 f11 ((iz 232) + a2) (x12 + (iz 1))).bind fun f13 =>
    some f13
  else
    some f
set_option maxRecDepth 4000 in
theorem jW_addVersion_40 {Γ : nx_G} {M0 : nx_M} {w c : Nat} (hw : M0.1 w = some (.inr (6, [.ref c]))) (hc : w ≠ c) (u : Nat) (a1 : Int32) (a2 : Int32) (a3 : Int32) (x1 : Int32)   (X : nx_X) (Z : nx_Z) (s4 : Int32 × (Nat → Int32)) : nx_J Γ X (RX6, cX6_addVersion, 7, none, "addVersion", 2) Z (Sum.elim (fun s4 : Int32 × (Nat → Int32) => .inl (40, [some (.ref w), some (.int a1), some (.int a2), some (.int a3), some (.int x1), some (.int (a2 * (iz 9))), some (.int s4.1)], [], (wW Γ M0 c s4.2))) (fun e7 : Int32 × (Nat → Int32) => .inl (88, [some (.ref w), some (.int a1), some (.int a2), some (.int a3), some (.int x1), some (.int (a2 * (iz 9))), some (.int e7.1)], [], (wW Γ M0 c e7.2)))) (.inl (40, [some (.ref w), some (.int a1), some (.int a2), some (.int a3), some (.int x1), some (.int (a2 * (iz 9))), some (.int s4.1)], [], (wW Γ M0 c s4.2))) (fW_addVersion_40 u a2 x1 s4) := by
  unfold fW_addVersion_40
  refine nx_iload rfl dX6_addVersion_40 rfl ?_
  refine nx_if_le (t := 88) dX6_addVersion_42 (by decide) rfl ?_ ?_
  · obtain ⟨_, _⟩ := s4
    exact nx_leaf rfl
  · refine nx_aload_n rfl dX6_addVersion_45 rfl ?_
    refine nx_getf fl_6_11 ((nx_put_ne hc).trans hw) rfl dX6_addVersion_46 rfl ?_
    refine nx_sipush (by decide +kernel) dX6_addVersion_49 rfl ?_
    refine nx_iload rfl dX6_addVersion_52 rfl ?_
    refine nx_iadd dX6_addVersion_54 rfl ?_
    refine nx_iload rfl dX6_addVersion_55 rfl ?_
    refine nx_iadd dX6_addVersion_57 rfl ?_
    refine nx_iconst dX6_addVersion_58 rfl ?_
    refine nx_isub dX6_addVersion_59 rfl ?_
    refine nx_iald nx_put_self dX6_addVersion_60 rfl (fun x5 => ?_)
    refine nx_iload rfl dX6_addVersion_61 rfl ?_
    refine nx_icmp_le (t := 88) dX6_addVersion_63 (by decide) rfl ?_ ?_
    · obtain ⟨_, _⟩ := s4
      exact nx_leaf rfl
    · refine nx_aload_n rfl dX6_addVersion_66 rfl ?_
      refine nx_iload rfl dX6_addVersion_67 rfl ?_
      refine nx_iload rfl dX6_addVersion_69 rfl ?_
      refine nx_iadd dX6_addVersion_71 rfl ?_
      refine nx_iconst dX6_addVersion_72 rfl ?_
      refine nx_isub dX6_addVersion_73 rfl ?_
      refine nx_iload rfl dX6_addVersion_74 rfl ?_
      refine nx_iload rfl dX6_addVersion_76 rfl ?_
      refine nx_iadd dX6_addVersion_78 rfl ?_
      refine nx_callVv [.int (((a2 * (iz 9)) + s4.1) - (iz 1)), .int ((a2 * (iz 9)) + s4.1)] (fun r => (wW Γ M0 c r)) cw_6_138 cv_X6_moveVersion (fun r e => cW_moveVersion X.2.1 hw hc e) ((nx_put_ne hc).trans hw) rfl rfl (Nat.le_of_ble_eq_true rfl) (Nat.le_of_ble_eq_true rfl) dX6_addVersion_79 rfl (fun g6 => ?_)
      refine nx_iinc [some (.ref w), some (.int a1), some (.int a2), some (.int a3), some (.int x1), some (.int (a2 * (iz 9))), some (.int (s4.1 + iz (-1)))] dX6_addVersion_82 rfl rfl (Nat.le_of_ble_eq_true rfl) rfl rfl ?_
      refine nx_goto (q := 40) dX6_addVersion_85 (by decide) ?_
      obtain ⟨_, _⟩ := s4
      exact nx_leaf rfl
set_option maxRecDepth 4000 in
theorem jW_addVersion {Γ : nx_G} {M0 : nx_M} {w c : Nat} (hw : M0.1 w = some (.inr (6, [.ref c]))) (hc : w ≠ c) (u : Nat) (f : (Nat → Int32)) (a1 : Int32) (a2 : Int32) (a3 : Int32)   (X : nx_X) (Z : nx_Z) : nx_J Γ X (RX6, cX6_addVersion, 7, none, "addVersion", 2) Z (fun r0 : (Nat → Int32) => .inr (none, (wW Γ M0 c r0))) (.inl (0, [some (.ref w), some (.int a1), some (.int a2), some (.int a3), none, none, none], [], (wW Γ M0 c f))) (fW_addVersion u f a1 a2 a3) := by
  unfold fW_addVersion
  refine nx_aload_n rfl dX6_addVersion_0 rfl ?_
  refine nx_getf fl_6_11 ((nx_put_ne hc).trans hw) rfl dX6_addVersion_1 rfl ?_
  refine nx_bipush (by decide +kernel) dX6_addVersion_4 rfl ?_
  refine nx_iload_n rfl dX6_addVersion_6 rfl ?_
  refine nx_iadd dX6_addVersion_7 rfl ?_
  refine nx_iald nx_put_self dX6_addVersion_8 rfl (fun x1 => ?_)
  refine nx_istore [some (.ref w), some (.int a1), some (.int a2), some (.int a3), some (.int x1), none, none] dX6_addVersion_9 rfl (Nat.le_of_ble_eq_true rfl) rfl rfl ?_
  refine nx_iload_n rfl dX6_addVersion_11 rfl ?_
  refine nx_bipush (by decide +kernel) dX6_addVersion_12 rfl ?_
  refine nx_imul dX6_addVersion_14 rfl ?_
  refine nx_istore [some (.ref w), some (.int a1), some (.int a2), some (.int a3), some (.int x1), some (.int (a2 * (iz 9))), none] dX6_addVersion_15 rfl (Nat.le_of_ble_eq_true rfl) rfl rfl ?_
  refine nx_aload_n rfl dX6_addVersion_17 rfl ?_
  refine nx_getf fl_6_11 ((nx_put_ne hc).trans hw) rfl dX6_addVersion_18 rfl ?_
  refine nx_sipush (by decide +kernel) dX6_addVersion_21 rfl ?_
  refine nx_iload_n rfl dX6_addVersion_24 rfl ?_
  refine nx_iadd dX6_addVersion_25 rfl ?_
  refine nx_iald nx_put_self dX6_addVersion_26 rfl (fun x2 => ?_)
  refine nx_istore [some (.ref w), some (.int a1), some (.int a2), some (.int a3), some (.int x1), some (.int (a2 * (iz 9))), some (.int x2)] dX6_addVersion_27 rfl (Nat.le_of_ble_eq_true rfl) rfl rfl ?_
  refine nx_iload rfl dX6_addVersion_29 rfl ?_
  refine nx_bipush (by decide +kernel) dX6_addVersion_31 rfl ?_
  refine nx_callSr [.int x2, .int (iz 9)] (fun r => .int (bz r)) (fun _ => (wW Γ M0 c f)) cw_6_33 wd_442 (fun r e => cL_within X.2.1  e) rfl rfl (Nat.le_of_ble_eq_true rfl) (Nat.le_of_ble_eq_true rfl) dX6_addVersion_33 rfl (fun b3 => ?_)
  refine nx_ifz_ne (t := 40) dX6_addVersion_36 (by decide) rfl ?_ ?_
  · refine nx_seq (C1 := fun e7 : Int32 × (Nat → Int32) => .inl (88, [some (.ref w), some (.int a1), some (.int a2), some (.int a3), some (.int x1), some (.int (a2 * (iz 9))), some (.int e7.1)], [], (wW Γ M0 c e7.2))) (nx_loop (C1 := fun s4 : Int32 × (Nat → Int32) => .inl (40, [some (.ref w), some (.int a1), some (.int a2), some (.int a3), some (.int x1), some (.int (a2 * (iz 9))), some (.int s4.1)], [], (wW Γ M0 c s4.2))) (fun s4 => jW_addVersion_40 hw hc u a1 a2 a3 x1 X Z s4) (x2, f)) (fun e7 => ?_)
    refine nx_aload_n rfl dX6_addVersion_88 rfl ?_
    refine nx_getf fl_6_11 ((nx_put_ne hc).trans hw) rfl dX6_addVersion_89 rfl ?_
    refine nx_sipush (by decide +kernel) dX6_addVersion_92 rfl ?_
    refine nx_iload rfl dX6_addVersion_95 rfl ?_
    refine nx_iadd dX6_addVersion_97 rfl ?_
    refine nx_iload rfl dX6_addVersion_98 rfl ?_
    refine nx_iadd dX6_addVersion_100 rfl ?_
    refine nx_iload rfl dX6_addVersion_101 rfl ?_
    refine w_iast dX6_addVersion_103 rfl (fun f8 => ?_)
    refine nx_aload_n rfl dX6_addVersion_104 rfl ?_
    refine nx_getf fl_6_11 ((nx_put_ne hc).trans hw) rfl dX6_addVersion_105 rfl ?_
    refine nx_sipush (by decide +kernel) dX6_addVersion_108 rfl ?_
    refine nx_iload rfl dX6_addVersion_111 rfl ?_
    refine nx_iadd dX6_addVersion_113 rfl ?_
    refine nx_iload rfl dX6_addVersion_114 rfl ?_
    refine nx_iadd dX6_addVersion_116 rfl ?_
    refine nx_iload_n rfl dX6_addVersion_117 rfl ?_
    refine w_iast dX6_addVersion_118 rfl (fun f9 => ?_)
    refine nx_aload_n rfl dX6_addVersion_119 rfl ?_
    refine nx_getf fl_6_11 ((nx_put_ne hc).trans hw) rfl dX6_addVersion_120 rfl ?_
    refine nx_sipush (by decide +kernel) dX6_addVersion_123 rfl ?_
    refine nx_iload rfl dX6_addVersion_126 rfl ?_
    refine nx_iadd dX6_addVersion_128 rfl ?_
    refine nx_iload rfl dX6_addVersion_129 rfl ?_
    refine nx_iadd dX6_addVersion_131 rfl ?_
    refine nx_iload rfl dX6_addVersion_132 rfl ?_
    refine w_iast dX6_addVersion_134 rfl (fun f10 => ?_)
    refine nx_aload_n rfl dX6_addVersion_135 rfl ?_
    refine nx_getf fl_6_11 ((nx_put_ne hc).trans hw) rfl dX6_addVersion_136 rfl ?_
    refine nx_sipush (by decide +kernel) dX6_addVersion_139 rfl ?_
    refine nx_iload rfl dX6_addVersion_142 rfl ?_
    refine nx_iadd dX6_addVersion_144 rfl ?_
    refine nx_iload rfl dX6_addVersion_145 rfl ?_
    refine nx_iadd dX6_addVersion_147 rfl ?_
    refine nx_iload_n rfl dX6_addVersion_148 rfl ?_
    refine w_iast dX6_addVersion_149 rfl (fun f11 => ?_)
    refine nx_aload_n rfl dX6_addVersion_150 rfl ?_
    refine nx_getf fl_6_11 ((nx_put_ne hc).trans hw) rfl dX6_addVersion_151 rfl ?_
    refine nx_sipush (by decide +kernel) dX6_addVersion_154 rfl ?_
    refine nx_iload_n rfl dX6_addVersion_157 rfl ?_
    refine nx_iadd dX6_addVersion_158 rfl ?_
    refine nx_dup2 rfl rfl dX6_addVersion_159 rfl ?_
    refine nx_iald nx_put_self dX6_addVersion_160 rfl (fun x12 => ?_)
    refine nx_iconst dX6_addVersion_161 rfl ?_
    refine nx_iadd dX6_addVersion_162 rfl ?_
    refine w_iast dX6_addVersion_163 rfl (fun f13 => ?_)
    exact nx_vret dX6_addVersion_164 rfl rfl
  · exact nx_vret dX6_addVersion_39 rfl rfl
theorem cW_addVersion (l : Launch) {Γ : nx_G} {M0 : nx_M} {w c : Nat} (hw : M0.1 w = some (.inr (6, [.ref c]))) (hc : w ≠ c) {u : Nat} {f : (Nat → Int32)} {a1 : Int32} {a2 : Int32} {a3 : Int32} {r : (Nat → Int32)}  (h : fW_addVersion u f a1 a2 a3 = some r) : nx_Ct l Γ 2 yX6_addVersion cX6_addVersion 7 none [.ref w, .int a1, .int a2, .int a3] (wW Γ M0 c f) (none, (wW Γ M0 c r)) :=
  nx_ct (out := fun r0 : (Nat → Int32) => (none, (wW Γ M0 c r0))) [some (.ref w), some (.int a1), some (.int a2), some (.int a3), none, none, none] pn_RX6 h (Nat.le_of_ble_eq_true rfl) rfl (fun X Z _ => jW_addVersion hw hc u f a1 a2 a3 X Z)
theorem dX6_writeKey_0 : decode cX6_writeKey 0 = .ok (.aload_n 0, 1) := by decide +kernel
theorem dX6_writeKey_1 : decode cX6_writeKey 1 = .ok (.iload_n 2, 1) := by decide +kernel
theorem dX6_writeKey_2 : decode cX6_writeKey 2 = .ok (.aload_n 0, 1) := by decide +kernel
theorem dX6_writeKey_3 : decode cX6_writeKey 3 = .ok (.getfield 11, 3) := by decide +kernel
theorem dX6_writeKey_6 : decode cX6_writeKey 6 = .ok (.bipush 48, 2) := by decide +kernel
theorem dX6_writeKey_8 : decode cX6_writeKey 8 = .ok (.iload_n 1, 1) := by decide +kernel
theorem dX6_writeKey_9 : decode cX6_writeKey 9 = .ok (.iadd, 1) := by decide +kernel
theorem dX6_writeKey_10 : decode cX6_writeKey 10 = .ok (.iaload, 1) := by decide +kernel
theorem dX6_writeKey_11 : decode cX6_writeKey 11 = .ok (.invokevirtual 81, 3) := by decide +kernel
theorem dX6_writeKey_14 : decode cX6_writeKey 14 = .ok (.ifCond .eq 20, 3) := by decide +kernel
theorem dX6_writeKey_17 : decode cX6_writeKey 17 = .ok (.aload_n 0, 1) := by decide +kernel
theorem dX6_writeKey_18 : decode cX6_writeKey 18 = .ok (.iconst 2, 1) := by decide +kernel
theorem dX6_writeKey_19 : decode cX6_writeKey 19 = .ok (.iload_n 1, 1) := by decide +kernel
theorem dX6_writeKey_20 : decode cX6_writeKey 20 = .ok (.bipush (-2), 2) := by decide +kernel
theorem dX6_writeKey_22 : decode cX6_writeKey 22 = .ok (.invokevirtual 115, 3) := by decide +kernel
theorem dX6_writeKey_25 : decode cX6_writeKey 25 = .ok (.aload_n 0, 1) := by decide +kernel
theorem dX6_writeKey_26 : decode cX6_writeKey 26 = .ok (.iload_n 1, 1) := by decide +kernel
theorem dX6_writeKey_27 : decode cX6_writeKey 27 = .ok (.invokevirtual 109, 3) := by decide +kernel
theorem dX6_writeKey_30 : decode cX6_writeKey 30 = .ok (.pop, 1) := by decide +kernel
theorem dX6_writeKey_31 : decode cX6_writeKey 31 = .ok (.bipush (-2), 2) := by decide +kernel
theorem dX6_writeKey_33 : decode cX6_writeKey 33 = .ok (.ireturn, 1) := by decide +kernel
theorem dX6_writeKey_34 : decode cX6_writeKey 34 = .ok (.aload_n 0, 1) := by decide +kernel
theorem dX6_writeKey_35 : decode cX6_writeKey 35 = .ok (.iload_n 2, 1) := by decide +kernel
theorem dX6_writeKey_36 : decode cX6_writeKey 36 = .ok (.iload_n 1, 1) := by decide +kernel
theorem dX6_writeKey_37 : decode cX6_writeKey 37 = .ok (.invokevirtual 78, 3) := by decide +kernel
theorem dX6_writeKey_40 : decode cX6_writeKey 40 = .ok (.istore 4, 2) := by decide +kernel
theorem dX6_writeKey_42 : decode cX6_writeKey 42 = .ok (.iload 4, 2) := by decide +kernel
theorem dX6_writeKey_44 : decode cX6_writeKey 44 = .ok (.bipush 54, 2) := by decide +kernel
theorem dX6_writeKey_46 : decode cX6_writeKey 46 = .ok (.invokestatic 33, 3) := by decide +kernel
theorem dX6_writeKey_49 : decode cX6_writeKey 49 = .ok (.ifCond .eq 24, 3) := by decide +kernel
theorem dX6_writeKey_52 : decode cX6_writeKey 52 = .ok (.aload_n 0, 1) := by decide +kernel
theorem dX6_writeKey_53 : decode cX6_writeKey 53 = .ok (.getfield 11, 3) := by decide +kernel
theorem dX6_writeKey_56 : decode cX6_writeKey 56 = .ok (.sipush 292, 3) := by decide +kernel
theorem dX6_writeKey_59 : decode cX6_writeKey 59 = .ok (.iload 4, 2) := by decide +kernel
theorem dX6_writeKey_61 : decode cX6_writeKey 61 = .ok (.iadd, 1) := by decide +kernel
theorem dX6_writeKey_62 : decode cX6_writeKey 62 = .ok (.iload_n 3, 1) := by decide +kernel
theorem dX6_writeKey_63 : decode cX6_writeKey 63 = .ok (.iastore, 1) := by decide +kernel
theorem dX6_writeKey_64 : decode cX6_writeKey 64 = .ok (.aload_n 0, 1) := by decide +kernel
theorem dX6_writeKey_65 : decode cX6_writeKey 65 = .ok (.iconst 2, 1) := by decide +kernel
theorem dX6_writeKey_66 : decode cX6_writeKey 66 = .ok (.iload_n 1, 1) := by decide +kernel
theorem dX6_writeKey_67 : decode cX6_writeKey 67 = .ok (.iconst 0, 1) := by decide +kernel
theorem dX6_writeKey_68 : decode cX6_writeKey 68 = .ok (.invokevirtual 115, 3) := by decide +kernel
theorem dX6_writeKey_71 : decode cX6_writeKey 71 = .ok (.iconst 0, 1) := by decide +kernel
theorem dX6_writeKey_72 : decode cX6_writeKey 72 = .ok (.ireturn, 1) := by decide +kernel
theorem dX6_writeKey_73 : decode cX6_writeKey 73 = .ok (.aload_n 0, 1) := by decide +kernel
theorem dX6_writeKey_74 : decode cX6_writeKey 74 = .ok (.iload_n 1, 1) := by decide +kernel
theorem dX6_writeKey_75 : decode cX6_writeKey 75 = .ok (.iload_n 2, 1) := by decide +kernel
theorem dX6_writeKey_76 : decode cX6_writeKey 76 = .ok (.iload_n 3, 1) := by decide +kernel
theorem dX6_writeKey_77 : decode cX6_writeKey 77 = .ok (.invokevirtual 135, 3) := by decide +kernel
theorem dX6_writeKey_80 : decode cX6_writeKey 80 = .ok (.aload_n 0, 1) := by decide +kernel
theorem dX6_writeKey_81 : decode cX6_writeKey 81 = .ok (.iconst 2, 1) := by decide +kernel
theorem dX6_writeKey_82 : decode cX6_writeKey 82 = .ok (.iload_n 1, 1) := by decide +kernel
theorem dX6_writeKey_83 : decode cX6_writeKey 83 = .ok (.iconst 1, 1) := by decide +kernel
theorem dX6_writeKey_84 : decode cX6_writeKey 84 = .ok (.invokevirtual 115, 3) := by decide +kernel
theorem dX6_writeKey_87 : decode cX6_writeKey 87 = .ok (.iconst 1, 1) := by decide +kernel
theorem dX6_writeKey_88 : decode cX6_writeKey 88 = .ok (.ireturn, 1) := by decide +kernel
def fW_writeKey (u : Nat) (f : (Nat → Int32)) (a1 : Int32) (a2 : Int32) (a3 : Int32) : Option (Int32 × (Nat → Int32)) :=
  (nx_rd 514 f ((iz 48) + a1)).bind fun x1 =>
  (fW_isLate u f a2 x1).bind fun b2 =>
  if b2 = true then
    (fW_note u f (iz 2) a1 (iz (-2))).bind fun g9 =>
    (fW_fallWithAll u g9 a1).bind fun p10 =>
    some ((iz (-2)), p10.2)
  else
    (fW_ownSlot u f a2 a1).bind fun x3 =>
    (fL_within u x3 (iz 54)).bind fun b4 =>
    if b4 = true then
      (nx_wr 514 f ((iz 292) + x3) a3).bind fun f7 =>
      (fW_note u f7 (iz 2) a1 (iz 0)).bind fun g8 =>
      some ((iz 0), g8)
    else
      (fW_addVersion u f a1 a2 a3).bind fun g5 =>
      (fW_note u g5 (iz 2) a1 (iz 1)).bind fun g6 =>
      some ((iz 1), g6)
set_option maxRecDepth 4000 in
theorem jW_writeKey {Γ : nx_G} {M0 : nx_M} {w c : Nat} (hw : M0.1 w = some (.inr (6, [.ref c]))) (hc : w ≠ c) (u : Nat) (f : (Nat → Int32)) (a1 : Int32) (a2 : Int32) (a3 : Int32)   (X : nx_X) (Z : nx_Z) : nx_J Γ X (RX6, cX6_writeKey, 5, (some .int), "writeKey", 4) Z (fun r0 : Int32 × (Nat → Int32) => .inr (some (.int r0.1), (wW Γ M0 c r0.2))) (.inl (0, [some (.ref w), some (.int a1), some (.int a2), some (.int a3), none], [], (wW Γ M0 c f))) (fW_writeKey u f a1 a2 a3) := by
  unfold fW_writeKey
  refine nx_aload_n rfl dX6_writeKey_0 rfl ?_
  refine nx_iload_n rfl dX6_writeKey_1 rfl ?_
  refine nx_aload_n rfl dX6_writeKey_2 rfl ?_
  refine nx_getf fl_6_11 ((nx_put_ne hc).trans hw) rfl dX6_writeKey_3 rfl ?_
  refine nx_bipush (by decide +kernel) dX6_writeKey_6 rfl ?_
  refine nx_iload_n rfl dX6_writeKey_8 rfl ?_
  refine nx_iadd dX6_writeKey_9 rfl ?_
  refine nx_iald nx_put_self dX6_writeKey_10 rfl (fun x1 => ?_)
  refine nx_callVr [.int a2, .int x1] (fun r => .int (bz r)) (fun _ => (wW Γ M0 c f)) cw_6_81 cv_X6_isLate (fun r e => cW_isLate X.2.1 hw hc e) ((nx_put_ne hc).trans hw) rfl rfl (Nat.le_of_ble_eq_true rfl) (Nat.le_of_ble_eq_true rfl) dX6_writeKey_11 rfl (fun b2 => ?_)
  refine nx_ifz_eq (t := 34) dX6_writeKey_14 (by decide) rfl ?_ ?_
  · refine nx_aload_n rfl dX6_writeKey_34 rfl ?_
    refine nx_iload_n rfl dX6_writeKey_35 rfl ?_
    refine nx_iload_n rfl dX6_writeKey_36 rfl ?_
    refine nx_callVr [.int a2, .int a1] (fun r => .int r) (fun _ => (wW Γ M0 c f)) cw_6_78 cv_X6_ownSlot (fun r e => cW_ownSlot X.2.1 hw hc e) ((nx_put_ne hc).trans hw) rfl rfl (Nat.le_of_ble_eq_true rfl) (Nat.le_of_ble_eq_true rfl) dX6_writeKey_37 rfl (fun x3 => ?_)
    refine nx_istore [some (.ref w), some (.int a1), some (.int a2), some (.int a3), some (.int x3)] dX6_writeKey_40 rfl (Nat.le_of_ble_eq_true rfl) rfl rfl ?_
    refine nx_iload rfl dX6_writeKey_42 rfl ?_
    refine nx_bipush (by decide +kernel) dX6_writeKey_44 rfl ?_
    refine nx_callSr [.int x3, .int (iz 54)] (fun r => .int (bz r)) (fun _ => (wW Γ M0 c f)) cw_6_33 wd_442 (fun r e => cL_within X.2.1  e) rfl rfl (Nat.le_of_ble_eq_true rfl) (Nat.le_of_ble_eq_true rfl) dX6_writeKey_46 rfl (fun b4 => ?_)
    refine nx_ifz_eq (t := 73) dX6_writeKey_49 (by decide) rfl ?_ ?_
    · refine nx_aload_n rfl dX6_writeKey_73 rfl ?_
      refine nx_iload_n rfl dX6_writeKey_74 rfl ?_
      refine nx_iload_n rfl dX6_writeKey_75 rfl ?_
      refine nx_iload_n rfl dX6_writeKey_76 rfl ?_
      refine nx_callVv [.int a1, .int a2, .int a3] (fun r => (wW Γ M0 c r)) cw_6_135 cv_X6_addVersion (fun r e => cW_addVersion X.2.1 hw hc e) ((nx_put_ne hc).trans hw) rfl rfl (Nat.le_of_ble_eq_true rfl) (Nat.le_of_ble_eq_true rfl) dX6_writeKey_77 rfl (fun g5 => ?_)
      refine nx_aload_n rfl dX6_writeKey_80 rfl ?_
      refine nx_iconst dX6_writeKey_81 rfl ?_
      refine nx_iload_n rfl dX6_writeKey_82 rfl ?_
      refine nx_iconst dX6_writeKey_83 rfl ?_
      refine nx_callVv [.int (iz 2), .int a1, .int (iz 1)] (fun r => (wW Γ M0 c r)) cw_6_115 cv_X6_note (fun r e => cW_note X.2.1 hw hc e) ((nx_put_ne hc).trans hw) rfl rfl (Nat.le_of_ble_eq_true rfl) (Nat.le_of_ble_eq_true rfl) dX6_writeKey_84 rfl (fun g6 => ?_)
      refine nx_iconst dX6_writeKey_87 rfl ?_
      exact nx_iret dX6_writeKey_88 rfl rfl
    · refine nx_aload_n rfl dX6_writeKey_52 rfl ?_
      refine nx_getf fl_6_11 ((nx_put_ne hc).trans hw) rfl dX6_writeKey_53 rfl ?_
      refine nx_sipush (by decide +kernel) dX6_writeKey_56 rfl ?_
      refine nx_iload rfl dX6_writeKey_59 rfl ?_
      refine nx_iadd dX6_writeKey_61 rfl ?_
      refine nx_iload_n rfl dX6_writeKey_62 rfl ?_
      refine w_iast dX6_writeKey_63 rfl (fun f7 => ?_)
      refine nx_aload_n rfl dX6_writeKey_64 rfl ?_
      refine nx_iconst dX6_writeKey_65 rfl ?_
      refine nx_iload_n rfl dX6_writeKey_66 rfl ?_
      refine nx_iconst dX6_writeKey_67 rfl ?_
      refine nx_callVv [.int (iz 2), .int a1, .int (iz 0)] (fun r => (wW Γ M0 c r)) cw_6_115 cv_X6_note (fun r e => cW_note X.2.1 hw hc e) ((nx_put_ne hc).trans hw) rfl rfl (Nat.le_of_ble_eq_true rfl) (Nat.le_of_ble_eq_true rfl) dX6_writeKey_68 rfl (fun g8 => ?_)
      refine nx_iconst dX6_writeKey_71 rfl ?_
      exact nx_iret dX6_writeKey_72 rfl rfl
  · refine nx_aload_n rfl dX6_writeKey_17 rfl ?_
    refine nx_iconst dX6_writeKey_18 rfl ?_
    refine nx_iload_n rfl dX6_writeKey_19 rfl ?_
    refine nx_bipush (by decide +kernel) dX6_writeKey_20 rfl ?_
    refine nx_callVv [.int (iz 2), .int a1, .int (iz (-2))] (fun r => (wW Γ M0 c r)) cw_6_115 cv_X6_note (fun r e => cW_note X.2.1 hw hc e) ((nx_put_ne hc).trans hw) rfl rfl (Nat.le_of_ble_eq_true rfl) (Nat.le_of_ble_eq_true rfl) dX6_writeKey_22 rfl (fun g9 => ?_)
    refine nx_aload_n rfl dX6_writeKey_25 rfl ?_
    refine nx_iload_n rfl dX6_writeKey_26 rfl ?_
    refine nx_callVr [.int a1] (fun r => .int r.1) (fun r => (wW Γ M0 c r.2)) cw_6_109 cv_X6_fallWithAll (fun r e => cW_fallWithAll X.2.1 hw hc e) ((nx_put_ne hc).trans hw) rfl rfl (Nat.le_of_ble_eq_true rfl) (Nat.le_of_ble_eq_true rfl) dX6_writeKey_27 rfl (fun p10 => ?_)
    refine nx_pop rfl dX6_writeKey_30 rfl ?_
    refine nx_bipush (by decide +kernel) dX6_writeKey_31 rfl ?_
    exact nx_iret dX6_writeKey_33 rfl rfl
theorem cW_writeKey (l : Launch) {Γ : nx_G} {M0 : nx_M} {w c : Nat} (hw : M0.1 w = some (.inr (6, [.ref c]))) (hc : w ≠ c) {u : Nat} {f : (Nat → Int32)} {a1 : Int32} {a2 : Int32} {a3 : Int32} {r : Int32 × (Nat → Int32)}  (h : fW_writeKey u f a1 a2 a3 = some r) : nx_Ct l Γ 4 yX6_writeKey cX6_writeKey 5 (some .int) [.ref w, .int a1, .int a2, .int a3] (wW Γ M0 c f) (some (.int r.1), (wW Γ M0 c r.2)) :=
  nx_ct (out := fun r0 : Int32 × (Nat → Int32) => (some (.int r0.1), (wW Γ M0 c r0.2))) [some (.ref w), some (.int a1), some (.int a2), some (.int a3), none] pn_RX6 h (Nat.le_of_ble_eq_true rfl) rfl (fun X Z _ => jW_writeKey hw hc u f a1 a2 a3 X Z)
theorem dX6_makeSure_0 : decode cX6_makeSure 0 = .ok (.aload_n 0, 1) := by decide +kernel
theorem dX6_makeSure_1 : decode cX6_makeSure 1 = .ok (.getfield 11, 3) := by decide +kernel
theorem dX6_makeSure_4 : decode cX6_makeSure 4 = .ok (.bipush 40, 2) := by decide +kernel
theorem dX6_makeSure_6 : decode cX6_makeSure 6 = .ok (.iload_n 1, 1) := by decide +kernel
theorem dX6_makeSure_7 : decode cX6_makeSure 7 = .ok (.iadd, 1) := by decide +kernel
theorem dX6_makeSure_8 : decode cX6_makeSure 8 = .ok (.iconst 3, 1) := by decide +kernel
theorem dX6_makeSure_9 : decode cX6_makeSure 9 = .ok (.iastore, 1) := by decide +kernel
theorem dX6_makeSure_10 : decode cX6_makeSure 10 = .ok (.iconst 0, 1) := by decide +kernel
theorem dX6_makeSure_11 : decode cX6_makeSure 11 = .ok (.istore_n 2, 1) := by decide +kernel
theorem dX6_makeSure_12 : decode cX6_makeSure 12 = .ok (.iload_n 2, 1) := by decide +kernel
theorem dX6_makeSure_13 : decode cX6_makeSure 13 = .ok (.bipush 54, 2) := by decide +kernel
theorem dX6_makeSure_15 : decode cX6_makeSure 15 = .ok (.if_icmp .ge 34, 3) := by decide +kernel
theorem dX6_makeSure_18 : decode cX6_makeSure 18 = .ok (.aload_n 0, 1) := by decide +kernel
theorem dX6_makeSure_19 : decode cX6_makeSure 19 = .ok (.getfield 11, 3) := by decide +kernel
theorem dX6_makeSure_22 : decode cX6_makeSure 22 = .ok (.sipush 400, 3) := by decide +kernel
theorem dX6_makeSure_25 : decode cX6_makeSure 25 = .ok (.iload_n 2, 1) := by decide +kernel
theorem dX6_makeSure_26 : decode cX6_makeSure 26 = .ok (.iadd, 1) := by decide +kernel
theorem dX6_makeSure_27 : decode cX6_makeSure 27 = .ok (.iaload, 1) := by decide +kernel
theorem dX6_makeSure_28 : decode cX6_makeSure 28 = .ok (.iload_n 1, 1) := by decide +kernel
theorem dX6_makeSure_29 : decode cX6_makeSure 29 = .ok (.if_icmp .ne 14, 3) := by decide +kernel
theorem dX6_makeSure_32 : decode cX6_makeSure 32 = .ok (.aload_n 0, 1) := by decide +kernel
theorem dX6_makeSure_33 : decode cX6_makeSure 33 = .ok (.getfield 11, 3) := by decide +kernel
theorem dX6_makeSure_36 : decode cX6_makeSure 36 = .ok (.sipush 400, 3) := by decide +kernel
theorem dX6_makeSure_39 : decode cX6_makeSure 39 = .ok (.iload_n 2, 1) := by decide +kernel
theorem dX6_makeSure_40 : decode cX6_makeSure 40 = .ok (.iadd, 1) := by decide +kernel
theorem dX6_makeSure_41 : decode cX6_makeSure 41 = .ok (.iconst (-1), 1) := by decide +kernel
theorem dX6_makeSure_42 : decode cX6_makeSure 42 = .ok (.iastore, 1) := by decide +kernel
theorem dX6_makeSure_43 : decode cX6_makeSure 43 = .ok (.iinc 2 1, 3) := by decide +kernel
theorem dX6_makeSure_46 : decode cX6_makeSure 46 = .ok (.goto (-34), 3) := by decide +kernel
theorem dX6_makeSure_49 : decode cX6_makeSure 49 = .ok (.iconst 0, 1) := by decide +kernel
theorem dX6_makeSure_50 : decode cX6_makeSure 50 = .ok (.istore_n 2, 1) := by decide +kernel
theorem dX6_makeSure_51 : decode cX6_makeSure 51 = .ok (.iload_n 2, 1) := by decide +kernel
theorem dX6_makeSure_52 : decode cX6_makeSure 52 = .ok (.bipush 8, 2) := by decide +kernel
theorem dX6_makeSure_54 : decode cX6_makeSure 54 = .ok (.if_icmp .ge 26, 3) := by decide +kernel
theorem dX6_makeSure_57 : decode cX6_makeSure 57 = .ok (.aload_n 0, 1) := by decide +kernel
theorem dX6_makeSure_58 : decode cX6_makeSure 58 = .ok (.getfield 11, 3) := by decide +kernel
theorem dX6_makeSure_61 : decode cX6_makeSure 61 = .ok (.bipush 64, 2) := by decide +kernel
theorem dX6_makeSure_63 : decode cX6_makeSure 63 = .ok (.iload_n 2, 1) := by decide +kernel
theorem dX6_makeSure_64 : decode cX6_makeSure 64 = .ok (.iadd, 1) := by decide +kernel
theorem dX6_makeSure_65 : decode cX6_makeSure 65 = .ok (.dup2, 1) := by decide +kernel
theorem dX6_makeSure_66 : decode cX6_makeSure 66 = .ok (.iaload, 1) := by decide +kernel
theorem dX6_makeSure_67 : decode cX6_makeSure 67 = .ok (.iconst 1, 1) := by decide +kernel
theorem dX6_makeSure_68 : decode cX6_makeSure 68 = .ok (.iload_n 1, 1) := by decide +kernel
theorem dX6_makeSure_69 : decode cX6_makeSure 69 = .ok (.ishl, 1) := by decide +kernel
theorem dX6_makeSure_70 : decode cX6_makeSure 70 = .ok (.iconst (-1), 1) := by decide +kernel
theorem dX6_makeSure_71 : decode cX6_makeSure 71 = .ok (.ixor, 1) := by decide +kernel
theorem dX6_makeSure_72 : decode cX6_makeSure 72 = .ok (.iand, 1) := by decide +kernel
theorem dX6_makeSure_73 : decode cX6_makeSure 73 = .ok (.iastore, 1) := by decide +kernel
theorem dX6_makeSure_74 : decode cX6_makeSure 74 = .ok (.iinc 2 1, 3) := by decide +kernel
theorem dX6_makeSure_77 : decode cX6_makeSure 77 = .ok (.goto (-26), 3) := by decide +kernel
theorem dX6_makeSure_80 : decode cX6_makeSure 80 = .ok (.aload_n 0, 1) := by decide +kernel
theorem dX6_makeSure_81 : decode cX6_makeSure 81 = .ok (.iconst 4, 1) := by decide +kernel
theorem dX6_makeSure_82 : decode cX6_makeSure 82 = .ok (.iload_n 1, 1) := by decide +kernel
theorem dX6_makeSure_83 : decode cX6_makeSure 83 = .ok (.aload_n 0, 1) := by decide +kernel
theorem dX6_makeSure_84 : decode cX6_makeSure 84 = .ok (.getfield 11, 3) := by decide +kernel
theorem dX6_makeSure_87 : decode cX6_makeSure 87 = .ok (.bipush 48, 2) := by decide +kernel
theorem dX6_makeSure_89 : decode cX6_makeSure 89 = .ok (.iload_n 1, 1) := by decide +kernel
theorem dX6_makeSure_90 : decode cX6_makeSure 90 = .ok (.iadd, 1) := by decide +kernel
theorem dX6_makeSure_91 : decode cX6_makeSure 91 = .ok (.iaload, 1) := by decide +kernel
theorem dX6_makeSure_92 : decode cX6_makeSure 92 = .ok (.invokevirtual 115, 3) := by decide +kernel
theorem dX6_makeSure_95 : decode cX6_makeSure 95 = .ok (.return_, 1) := by decide +kernel
def fW_makeSure_12 (a1 : Int32) (s2 : Int32 × (Nat → Int32)) : Option ((Int32 × (Nat → Int32)) ⊕ ((Nat → Int32))) :=
  if (iz 54) ≤ s2.1 then
    some (.inr s2.2)
  else
    (nx_rd 514 s2.2 ((iz 400) + s2.1)).bind fun x3 =>
    (if x3 = a1 then
       (nx_wr 514 s2.2 ((iz 400) + s2.1) (iz (-1))).bind fun f4 =>
       some f4
     else
       some s2.2 : Option ((Nat → Int32))).bind fun s5 =>
    some (.inl ((s2.1 + iz 1), s5))
def fW_makeSure_51 (a1 : Int32) (s7 : Int32 × (Nat → Int32)) : Option ((Int32 × (Nat → Int32)) ⊕ ((Nat → Int32))) :=
  if (iz 8) ≤ s7.1 then
    some (.inr s7.2)
  else
    (nx_rd 514 s7.2 ((iz 64) + s7.1)).bind fun x8 =>
    (nx_wr 514 s7.2 ((iz 64) + s7.1) (x8 &&& (((iz 1) <<< (a1 &&& 31)) ^^^ (iz (-1))))).bind fun f9 =>
    some (.inl ((s7.1 + iz 1), f9))
def fW_makeSure (u : Nat) (f : (Nat → Int32)) (a1 : Int32) : Option ((Nat → Int32)) :=
  (nx_wr 514 f ((iz 40) + a1) (iz 3)).bind fun f1 =>
  (nx_iter u (fW_makeSure_12 a1) ((iz 0), f1)).bind fun e6 =>
  (nx_iter u (fW_makeSure_51 a1) ((iz 0), e6)).bind fun e10 =>
  (nx_rd 514 e10 ((iz 48) + a1)).bind fun x11 =>
  (fW_note u e10 (iz 4) a1 x11).bind fun g12 =>
  some g12
set_option maxRecDepth 4000 in
theorem jW_makeSure_12 {Γ : nx_G} {M0 : nx_M} {w c : Nat} (hw : M0.1 w = some (.inr (6, [.ref c]))) (hc : w ≠ c) (a1 : Int32)   (X : nx_X) (Z : nx_Z) (s2 : Int32 × (Nat → Int32)) : nx_J Γ X (RX6, cX6_makeSure, 3, none, "makeSure", 3) Z (Sum.elim (fun s2 : Int32 × (Nat → Int32) => .inl (12, [some (.ref w), some (.int a1), some (.int s2.1)], [], (wW Γ M0 c s2.2))) (fun e6 : (Nat → Int32) => .inl (49, [some (.ref w), some (.int a1), none], [], (wW Γ M0 c e6)))) (.inl (12, [some (.ref w), some (.int a1), some (.int s2.1)], [], (wW Γ M0 c s2.2))) (fW_makeSure_12 a1 s2) := by
  unfold fW_makeSure_12
  refine nx_iload_n rfl dX6_makeSure_12 rfl ?_
  refine nx_bipush (by decide +kernel) dX6_makeSure_13 rfl ?_
  refine nx_icmp_ge (t := 49) dX6_makeSure_15 (by decide) rfl ?_ ?_
  · refine nx_weak (ls' := [some (.ref w), some (.int a1), none]) (nx_wk_s (nx_wk_s (nx_wk_n nx_wk_e))) ?_
    obtain ⟨_, _⟩ := s2
    exact nx_leaf rfl
  · refine nx_aload_n rfl dX6_makeSure_18 rfl ?_
    refine nx_getf fl_6_11 ((nx_put_ne hc).trans hw) rfl dX6_makeSure_19 rfl ?_
    refine nx_sipush (by decide +kernel) dX6_makeSure_22 rfl ?_
    refine nx_iload_n rfl dX6_makeSure_25 rfl ?_
    refine nx_iadd dX6_makeSure_26 rfl ?_
    refine nx_iald nx_put_self dX6_makeSure_27 rfl (fun x3 => ?_)
    refine nx_iload_n rfl dX6_makeSure_28 rfl ?_
    refine nx_seq (C1 := fun s5 : (Nat → Int32) => .inl (43, [some (.ref w), some (.int a1), some (.int s2.1)], [], (wW Γ M0 c s5))) ?_ (fun s5 => ?_)
    · refine nx_icmp_ne (t := 43) dX6_makeSure_29 (by decide) rfl ?_ ?_
      · obtain ⟨_, _⟩ := s2
        exact nx_leaf rfl
      · refine nx_aload_n rfl dX6_makeSure_32 rfl ?_
        refine nx_getf fl_6_11 ((nx_put_ne hc).trans hw) rfl dX6_makeSure_33 rfl ?_
        refine nx_sipush (by decide +kernel) dX6_makeSure_36 rfl ?_
        refine nx_iload_n rfl dX6_makeSure_39 rfl ?_
        refine nx_iadd dX6_makeSure_40 rfl ?_
        refine nx_iconst dX6_makeSure_41 rfl ?_
        refine w_iast dX6_makeSure_42 rfl (fun f4 => ?_)
        obtain ⟨_, _⟩ := s2
        exact nx_leaf rfl
    refine nx_iinc [some (.ref w), some (.int a1), some (.int (s2.1 + iz 1))] dX6_makeSure_43 rfl rfl (Nat.le_of_ble_eq_true rfl) rfl rfl ?_
    refine nx_goto (q := 12) dX6_makeSure_46 (by decide) ?_
    obtain ⟨_, _⟩ := s2
    exact nx_leaf rfl
set_option maxRecDepth 4000 in
theorem jW_makeSure_51 {Γ : nx_G} {M0 : nx_M} {w c : Nat} (hw : M0.1 w = some (.inr (6, [.ref c]))) (hc : w ≠ c) (a1 : Int32)   (X : nx_X) (Z : nx_Z) (s7 : Int32 × (Nat → Int32)) : nx_J Γ X (RX6, cX6_makeSure, 3, none, "makeSure", 3) Z (Sum.elim (fun s7 : Int32 × (Nat → Int32) => .inl (51, [some (.ref w), some (.int a1), some (.int s7.1)], [], (wW Γ M0 c s7.2))) (fun e10 : (Nat → Int32) => .inl (80, [some (.ref w), some (.int a1), none], [], (wW Γ M0 c e10)))) (.inl (51, [some (.ref w), some (.int a1), some (.int s7.1)], [], (wW Γ M0 c s7.2))) (fW_makeSure_51 a1 s7) := by
  unfold fW_makeSure_51
  refine nx_iload_n rfl dX6_makeSure_51 rfl ?_
  refine nx_bipush (by decide +kernel) dX6_makeSure_52 rfl ?_
  refine nx_icmp_ge (t := 80) dX6_makeSure_54 (by decide) rfl ?_ ?_
  · refine nx_weak (ls' := [some (.ref w), some (.int a1), none]) (nx_wk_s (nx_wk_s (nx_wk_n nx_wk_e))) ?_
    obtain ⟨_, _⟩ := s7
    exact nx_leaf rfl
  · refine nx_aload_n rfl dX6_makeSure_57 rfl ?_
    refine nx_getf fl_6_11 ((nx_put_ne hc).trans hw) rfl dX6_makeSure_58 rfl ?_
    refine nx_bipush (by decide +kernel) dX6_makeSure_61 rfl ?_
    refine nx_iload_n rfl dX6_makeSure_63 rfl ?_
    refine nx_iadd dX6_makeSure_64 rfl ?_
    refine nx_dup2 rfl rfl dX6_makeSure_65 rfl ?_
    refine nx_iald nx_put_self dX6_makeSure_66 rfl (fun x8 => ?_)
    refine nx_iconst dX6_makeSure_67 rfl ?_
    refine nx_iload_n rfl dX6_makeSure_68 rfl ?_
    refine nx_ishl dX6_makeSure_69 rfl ?_
    refine nx_iconst dX6_makeSure_70 rfl ?_
    refine nx_ixor dX6_makeSure_71 rfl ?_
    refine nx_iand dX6_makeSure_72 rfl ?_
    refine w_iast dX6_makeSure_73 rfl (fun f9 => ?_)
    refine nx_iinc [some (.ref w), some (.int a1), some (.int (s7.1 + iz 1))] dX6_makeSure_74 rfl rfl (Nat.le_of_ble_eq_true rfl) rfl rfl ?_
    refine nx_goto (q := 51) dX6_makeSure_77 (by decide) ?_
    obtain ⟨_, _⟩ := s7
    exact nx_leaf rfl
set_option maxRecDepth 4000 in
theorem jW_makeSure {Γ : nx_G} {M0 : nx_M} {w c : Nat} (hw : M0.1 w = some (.inr (6, [.ref c]))) (hc : w ≠ c) (u : Nat) (f : (Nat → Int32)) (a1 : Int32)   (X : nx_X) (Z : nx_Z) : nx_J Γ X (RX6, cX6_makeSure, 3, none, "makeSure", 3) Z (fun r0 : (Nat → Int32) => .inr (none, (wW Γ M0 c r0))) (.inl (0, [some (.ref w), some (.int a1), none], [], (wW Γ M0 c f))) (fW_makeSure u f a1) := by
  unfold fW_makeSure
  refine nx_aload_n rfl dX6_makeSure_0 rfl ?_
  refine nx_getf fl_6_11 ((nx_put_ne hc).trans hw) rfl dX6_makeSure_1 rfl ?_
  refine nx_bipush (by decide +kernel) dX6_makeSure_4 rfl ?_
  refine nx_iload_n rfl dX6_makeSure_6 rfl ?_
  refine nx_iadd dX6_makeSure_7 rfl ?_
  refine nx_iconst dX6_makeSure_8 rfl ?_
  refine w_iast dX6_makeSure_9 rfl (fun f1 => ?_)
  refine nx_iconst dX6_makeSure_10 rfl ?_
  refine nx_istore_n [some (.ref w), some (.int a1), some (.int (iz 0))] dX6_makeSure_11 rfl (Nat.le_of_ble_eq_true rfl) rfl rfl ?_
  refine nx_seq (C1 := fun e6 : (Nat → Int32) => .inl (49, [some (.ref w), some (.int a1), none], [], (wW Γ M0 c e6))) (nx_loop (C1 := fun s2 : Int32 × (Nat → Int32) => .inl (12, [some (.ref w), some (.int a1), some (.int s2.1)], [], (wW Γ M0 c s2.2))) (fun s2 => jW_makeSure_12 hw hc a1 X Z s2) ((iz 0), f1)) (fun e6 => ?_)
  refine nx_iconst dX6_makeSure_49 rfl ?_
  refine nx_istore_n [some (.ref w), some (.int a1), some (.int (iz 0))] dX6_makeSure_50 rfl (Nat.le_of_ble_eq_true rfl) rfl rfl ?_
  refine nx_seq (C1 := fun e10 : (Nat → Int32) => .inl (80, [some (.ref w), some (.int a1), none], [], (wW Γ M0 c e10))) (nx_loop (C1 := fun s7 : Int32 × (Nat → Int32) => .inl (51, [some (.ref w), some (.int a1), some (.int s7.1)], [], (wW Γ M0 c s7.2))) (fun s7 => jW_makeSure_51 hw hc a1 X Z s7) ((iz 0), e6)) (fun e10 => ?_)
  refine nx_aload_n rfl dX6_makeSure_80 rfl ?_
  refine nx_iconst dX6_makeSure_81 rfl ?_
  refine nx_iload_n rfl dX6_makeSure_82 rfl ?_
  refine nx_aload_n rfl dX6_makeSure_83 rfl ?_
  refine nx_getf fl_6_11 ((nx_put_ne hc).trans hw) rfl dX6_makeSure_84 rfl ?_
  refine nx_bipush (by decide +kernel) dX6_makeSure_87 rfl ?_
  refine nx_iload_n rfl dX6_makeSure_89 rfl ?_
  refine nx_iadd dX6_makeSure_90 rfl ?_
  refine nx_iald nx_put_self dX6_makeSure_91 rfl (fun x11 => ?_)
  refine nx_callVv [.int (iz 4), .int a1, .int x11] (fun r => (wW Γ M0 c r)) cw_6_115 cv_X6_note (fun r e => cW_note X.2.1 hw hc e) ((nx_put_ne hc).trans hw) rfl rfl (Nat.le_of_ble_eq_true rfl) (Nat.le_of_ble_eq_true rfl) dX6_makeSure_92 rfl (fun g12 => ?_)
  exact nx_vret dX6_makeSure_95 rfl rfl
theorem cW_makeSure (l : Launch) {Γ : nx_G} {M0 : nx_M} {w c : Nat} (hw : M0.1 w = some (.inr (6, [.ref c]))) (hc : w ≠ c) {u : Nat} {f : (Nat → Int32)} {a1 : Int32} {r : (Nat → Int32)}  (h : fW_makeSure u f a1 = some r) : nx_Ct l Γ 3 yX6_makeSure cX6_makeSure 3 none [.ref w, .int a1] (wW Γ M0 c f) (none, (wW Γ M0 c r)) :=
  nx_ct (out := fun r0 : (Nat → Int32) => (none, (wW Γ M0 c r0))) [some (.ref w), some (.int a1), none] pn_RX6 h (Nat.le_of_ble_eq_true rfl) rfl (fun X Z _ => jW_makeSure hw hc u f a1 X Z)
