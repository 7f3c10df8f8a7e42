theorem dX8_in_0 : decode cX8_in 0 = .ok (.iload_n 0, 1) := by decide +kernel
theorem dX8_in_1 : decode cX8_in 1 = .ok (.iload_n 1, 1) := by decide +kernel
theorem dX8_in_2 : decode cX8_in 2 = .ok (.if_icmp .lt 12, 3) := by decide +kernel
theorem dX8_in_5 : decode cX8_in 5 = .ok (.iload_n 0, 1) := by decide +kernel
theorem dX8_in_6 : decode cX8_in 6 = .ok (.iload_n 2, 1) := by decide +kernel
theorem dX8_in_7 : decode cX8_in 7 = .ok (.if_icmp .gt 7, 3) := by decide +kernel
theorem dX8_in_10 : decode cX8_in 10 = .ok (.iconst 1, 1) := by decide +kernel
theorem dX8_in_11 : decode cX8_in 11 = .ok (.goto 4, 3) := by decide +kernel
theorem dX8_in_14 : decode cX8_in 14 = .ok (.iconst 0, 1) := by decide +kernel
theorem dX8_in_15 : decode cX8_in 15 = .ok (.ireturn, 1) := by decide +kernel
def fM_in (u : Nat) (a1 : Int32) (a2 : Int32) (a3 : Int32) : Option (Bool) :=
  if a1 < a2 then
    some false
  else
    if a3 < a1 then
      some false
    else
      some true
set_option maxRecDepth 4000 in
theorem jM_in {Γ : nx_G} {M : nx_M} (u : Nat) (a1 : Int32) (a2 : Int32) (a3 : Int32)   (X : nx_X) (Z : nx_Z) : nx_J Γ X (RX8, cX8_in, 3, (some .boolean), "in", 1) Z (fun r0 : Bool => .inr (some (.int (bz r0)), M)) (.inl (0, [some (.int a1), some (.int a2), some (.int a3)], [], M)) (fM_in u a1 a2 a3) := by
  unfold fM_in
  refine nx_iload_n rfl dX8_in_0 rfl ?_
  refine nx_iload_n rfl dX8_in_1 rfl ?_
  refine nx_icmp_lt (t := 14) dX8_in_2 (by decide) rfl ?_ ?_
  · refine nx_iconst dX8_in_14 rfl ?_
    exact nx_zret (b := false) dX8_in_15 rfl rfl
  · refine nx_iload_n rfl dX8_in_5 rfl ?_
    refine nx_iload_n rfl dX8_in_6 rfl ?_
    refine nx_icmp_gt (t := 14) dX8_in_7 (by decide) rfl ?_ ?_
    · refine nx_iconst dX8_in_14 rfl ?_
      exact nx_zret (b := false) dX8_in_15 rfl rfl
    · refine nx_iconst dX8_in_10 rfl ?_
      refine nx_goto (q := 15) dX8_in_11 (by decide) ?_
      exact nx_zret (b := true) dX8_in_15 rfl rfl
theorem cM_in (l : Launch) {Γ : nx_G} {M : nx_M} {u : Nat} {a1 : Int32} {a2 : Int32} {a3 : Int32} {r : Bool}  (h : fM_in u a1 a2 a3 = some r) : nx_Ct l Γ 1 yX8_in cX8_in 3 (some .boolean) [.int a1, .int a2, .int a3] M (some (.int (bz r)), M) :=
  nx_ct (out := fun r0 : Bool => (some (.int (bz r0)), M)) [some (.int a1), some (.int a2), some (.int a3)] pn_RX8 h (Nat.le_of_ble_eq_true rfl) rfl (fun X Z _ => jM_in  u a1 a2 a3 X Z)
theorem dX8_has_0 : decode cX8_has 0 = .ok (.iload_n 0, 1) := by decide +kernel
theorem dX8_has_1 : decode cX8_has 1 = .ok (.iload_n 1, 1) := by decide +kernel
theorem dX8_has_2 : decode cX8_has 2 = .ok (.ishr, 1) := by decide +kernel
theorem dX8_has_3 : decode cX8_has 3 = .ok (.iconst 1, 1) := by decide +kernel
theorem dX8_has_4 : decode cX8_has 4 = .ok (.iand, 1) := by decide +kernel
theorem dX8_has_5 : decode cX8_has 5 = .ok (.iconst 1, 1) := by decide +kernel
theorem dX8_has_6 : decode cX8_has 6 = .ok (.if_icmp .ne 7, 3) := by decide +kernel
theorem dX8_has_9 : decode cX8_has 9 = .ok (.iconst 1, 1) := by decide +kernel
theorem dX8_has_10 : decode cX8_has 10 = .ok (.goto 4, 3) := by decide +kernel
theorem dX8_has_13 : decode cX8_has 13 = .ok (.iconst 0, 1) := by decide +kernel
theorem dX8_has_14 : decode cX8_has 14 = .ok (.ireturn, 1) := by decide +kernel
def fM_has (u : Nat) (a1 : Int32) (a2 : Int32) : Option (Bool) :=
  if ((a1 >>> (a2 &&& 31)) &&& (iz 1)) = (iz 1) then
    some true
  else
    some false
set_option maxRecDepth 4000 in
theorem jM_has {Γ : nx_G} {M : nx_M} (u : Nat) (a1 : Int32) (a2 : Int32)   (X : nx_X) (Z : nx_Z) : nx_J Γ X (RX8, cX8_has, 2, (some .boolean), "has", 1) Z (fun r0 : Bool => .inr (some (.int (bz r0)), M)) (.inl (0, [some (.int a1), some (.int a2)], [], M)) (fM_has u a1 a2) := by
  unfold fM_has
  refine nx_iload_n rfl dX8_has_0 rfl ?_
  refine nx_iload_n rfl dX8_has_1 rfl ?_
  refine nx_ishr dX8_has_2 rfl ?_
  refine nx_iconst dX8_has_3 rfl ?_
  refine nx_iand dX8_has_4 rfl ?_
  refine nx_iconst dX8_has_5 rfl ?_
  refine nx_icmp_ne (t := 13) dX8_has_6 (by decide) rfl ?_ ?_
  · refine nx_iconst dX8_has_13 rfl ?_
    exact nx_zret (b := false) dX8_has_14 rfl rfl
  · refine nx_iconst dX8_has_9 rfl ?_
    refine nx_goto (q := 14) dX8_has_10 (by decide) ?_
    exact nx_zret (b := true) dX8_has_14 rfl rfl
theorem cM_has (l : Launch) {Γ : nx_G} {M : nx_M} {u : Nat} {a1 : Int32} {a2 : Int32} {r : Bool}  (h : fM_has u a1 a2 = some r) : nx_Ct l Γ 1 yX8_has cX8_has 2 (some .boolean) [.int a1, .int a2] M (some (.int (bz r)), M) :=
  nx_ct (out := fun r0 : Bool => (some (.int (bz r0)), M)) [some (.int a1), some (.int a2)] pn_RX8 h (Nat.le_of_ble_eq_true rfl) rfl (fun X Z _ => jM_has  u a1 a2 X Z)
theorem dX8_bits_0 : decode cX8_bits 0 = .ok (.iconst 0, 1) := by decide +kernel
theorem dX8_bits_1 : decode cX8_bits 1 = .ok (.istore_n 1, 1) := by decide +kernel
theorem dX8_bits_2 : decode cX8_bits 2 = .ok (.iconst 0, 1) := by decide +kernel
theorem dX8_bits_3 : decode cX8_bits 3 = .ok (.istore_n 2, 1) := by decide +kernel
theorem dX8_bits_4 : decode cX8_bits 4 = .ok (.iload_n 2, 1) := by decide +kernel
theorem dX8_bits_5 : decode cX8_bits 5 = .ok (.bipush 8, 2) := by decide +kernel
theorem dX8_bits_7 : decode cX8_bits 7 = .ok (.if_icmp .ge 17, 3) := by decide +kernel
theorem dX8_bits_10 : decode cX8_bits 10 = .ok (.iload_n 1, 1) := by decide +kernel
theorem dX8_bits_11 : decode cX8_bits 11 = .ok (.iload_n 0, 1) := by decide +kernel
theorem dX8_bits_12 : decode cX8_bits 12 = .ok (.iload_n 2, 1) := by decide +kernel
theorem dX8_bits_13 : decode cX8_bits 13 = .ok (.ishr, 1) := by decide +kernel
theorem dX8_bits_14 : decode cX8_bits 14 = .ok (.iconst 1, 1) := by decide +kernel
theorem dX8_bits_15 : decode cX8_bits 15 = .ok (.iand, 1) := by decide +kernel
theorem dX8_bits_16 : decode cX8_bits 16 = .ok (.iadd, 1) := by decide +kernel
theorem dX8_bits_17 : decode cX8_bits 17 = .ok (.istore_n 1, 1) := by decide +kernel
theorem dX8_bits_18 : decode cX8_bits 18 = .ok (.iinc 2 1, 3) := by decide +kernel
theorem dX8_bits_21 : decode cX8_bits 21 = .ok (.goto (-17), 3) := by decide +kernel
theorem dX8_bits_24 : decode cX8_bits 24 = .ok (.iload_n 1, 1) := by decide +kernel
theorem dX8_bits_25 : decode cX8_bits 25 = .ok (.ireturn, 1) := by decide +kernel
def fM_bits_4 (a1 : Int32) (s1 : Int32 × Int32) : Option ((Int32 × Int32) ⊕ (Int32)) :=
  if (iz 8) ≤ s1.2 then
    some (.inr s1.1)
  else
    some (.inl ((s1.1 + ((a1 >>> (s1.2 &&& 31)) &&& (iz 1))), (s1.2 + iz 1)))
def fM_bits (u : Nat) (a1 : Int32) : Option (Int32) :=
  (nx_iter u (fM_bits_4 a1) ((iz 0), (iz 0))).bind fun e2 =>
  some e2
set_option maxRecDepth 4000 in
theorem jM_bits_4 {Γ : nx_G} {M : nx_M} (a1 : Int32)   (X : nx_X) (Z : nx_Z) (s1 : Int32 × Int32) : nx_J Γ X (RX8, cX8_bits, 3, (some .int), "bits", 1) Z (Sum.elim (fun s1 : Int32 × Int32 => .inl (4, [some (.int a1), some (.int s1.1), some (.int s1.2)], [], M)) (fun e2 : Int32 => .inl (24, [some (.int a1), some (.int e2), none], [], M))) (.inl (4, [some (.int a1), some (.int s1.1), some (.int s1.2)], [], M)) (fM_bits_4 a1 s1) := by
  unfold fM_bits_4
  refine nx_iload_n rfl dX8_bits_4 rfl ?_
  refine nx_bipush (by decide +kernel) dX8_bits_5 rfl ?_
  refine nx_icmp_ge (t := 24) dX8_bits_7 (by decide) rfl ?_ ?_
  · refine nx_weak (ls' := [some (.int a1), some (.int s1.1), none]) (nx_wk_s (nx_wk_s (nx_wk_n nx_wk_e))) ?_
    obtain ⟨_, _⟩ := s1
    exact nx_leaf rfl
  · refine nx_iload_n rfl dX8_bits_10 rfl ?_
    refine nx_iload_n rfl dX8_bits_11 rfl ?_
    refine nx_iload_n rfl dX8_bits_12 rfl ?_
    refine nx_ishr dX8_bits_13 rfl ?_
    refine nx_iconst dX8_bits_14 rfl ?_
    refine nx_iand dX8_bits_15 rfl ?_
    refine nx_iadd dX8_bits_16 rfl ?_
    refine nx_istore_n [some (.int a1), some (.int (s1.1 + ((a1 >>> (s1.2 &&& 31)) &&& (iz 1)))), some (.int s1.2)] dX8_bits_17 rfl (Nat.le_of_ble_eq_true rfl) rfl rfl ?_
    refine nx_iinc [some (.int a1), some (.int (s1.1 + ((a1 >>> (s1.2 &&& 31)) &&& (iz 1)))), some (.int (s1.2 + iz 1))] dX8_bits_18 rfl rfl (Nat.le_of_ble_eq_true rfl) rfl rfl ?_
    refine nx_goto (q := 4) dX8_bits_21 (by decide) ?_
    obtain ⟨_, _⟩ := s1
    exact nx_leaf rfl
set_option maxRecDepth 4000 in
theorem jM_bits {Γ : nx_G} {M : nx_M} (u : Nat) (a1 : Int32)   (X : nx_X) (Z : nx_Z) : nx_J Γ X (RX8, cX8_bits, 3, (some .int), "bits", 1) Z (fun r0 : Int32 => .inr (some (.int r0), M)) (.inl (0, [some (.int a1), none, none], [], M)) (fM_bits u a1) := by
  unfold fM_bits
  refine nx_iconst dX8_bits_0 rfl ?_
  refine nx_istore_n [some (.int a1), some (.int (iz 0)), none] dX8_bits_1 rfl (Nat.le_of_ble_eq_true rfl) rfl rfl ?_
  refine nx_iconst dX8_bits_2 rfl ?_
  refine nx_istore_n [some (.int a1), some (.int (iz 0)), some (.int (iz 0))] dX8_bits_3 rfl (Nat.le_of_ble_eq_true rfl) rfl rfl ?_
  refine nx_seq (C1 := fun e2 : Int32 => .inl (24, [some (.int a1), some (.int e2), none], [], M)) (nx_loop (C1 := fun s1 : Int32 × Int32 => .inl (4, [some (.int a1), some (.int s1.1), some (.int s1.2)], [], M)) (fun s1 => jM_bits_4  a1 X Z s1) ((iz 0), (iz 0))) (fun e2 => ?_)
  refine nx_iload_n rfl dX8_bits_24 rfl ?_
  exact nx_iret dX8_bits_25 rfl rfl
theorem cM_bits (l : Launch) {Γ : nx_G} {M : nx_M} {u : Nat} {a1 : Int32} {r : Int32}  (h : fM_bits u a1 = some r) : nx_Ct l Γ 1 yX8_bits cX8_bits 3 (some .int) [.int a1] M (some (.int r), M) :=
  nx_ct (out := fun r0 : Int32 => (some (.int r0), M)) [some (.int a1), none, none] pn_RX8 h (Nat.le_of_ble_eq_true rfl) rfl (fun X Z _ => jM_bits  u a1 X Z)
theorem dX8_thrown_0 : decode cX8_thrown 0 = .ok (.aload_n 0, 1) := by decide +kernel
theorem dX8_thrown_1 : decode cX8_thrown 1 = .ok (.getfield 50, 3) := by decide +kernel
theorem dX8_thrown_4 : decode cX8_thrown 4 = .ok (.ireturn, 1) := by decide +kernel
def fM_thrown (u : Nat) (g : mS) : Option (Int32) :=
  some (g.1 0 0)
set_option maxRecDepth 4000 in
theorem jM_thrown {Γ : nx_G} {M0 : nx_M} {m : Nat} (u : Nat) (g : mS)   (X : nx_X) (Z : nx_Z) : nx_J Γ X (RX8, cX8_thrown, 1, (some .int), "thrown", 1) Z (fun r0 : Int32 => .inr (some (.int r0), (mW Γ M0 m g))) (.inl (0, [some (.ref m)], [], (mW Γ M0 m g))) (fM_thrown u g) := by
  unfold fM_thrown
  refine nx_aload_n rfl dX8_thrown_0 rfl ?_
  refine nx_getf fl_8_50 mW_m rfl dX8_thrown_1 rfl ?_
  exact nx_iret dX8_thrown_4 rfl rfl
theorem cM_thrown (l : Launch) {Γ : nx_G} {M0 : nx_M} {m : Nat} {u : Nat} {g : mS} {r : Int32}  (h : fM_thrown u g = some r) : nx_Ct l Γ 1 yX8_thrown cX8_thrown 1 (some .int) [.ref m] (mW Γ M0 m g) (some (.int r), (mW Γ M0 m g)) :=
  nx_ct (out := fun r0 : Int32 => (some (.int r0), (mW Γ M0 m g))) [some (.ref m)] pn_RX8 h (Nat.le_of_ble_eq_true rfl) rfl (fun X Z _ => jM_thrown  u g X Z)
theorem dX8_byteOf_0 : decode cX8_byteOf 0 = .ok (.iload 5, 2) := by decide +kernel
theorem dX8_byteOf_2 : decode cX8_byteOf 2 = .ok (.iconst 4, 1) := by decide +kernel
theorem dX8_byteOf_3 : decode cX8_byteOf 3 = .ok (.if_icmp .ge 7, 3) := by decide +kernel
theorem dX8_byteOf_6 : decode cX8_byteOf 6 = .ok (.iload_n 0, 1) := by decide +kernel
theorem dX8_byteOf_7 : decode cX8_byteOf 7 = .ok (.goto 38, 3) := by decide +kernel
theorem dX8_byteOf_10 : decode cX8_byteOf 10 = .ok (.iload 5, 2) := by decide +kernel
theorem dX8_byteOf_12 : decode cX8_byteOf 12 = .ok (.bipush 8, 2) := by decide +kernel
theorem dX8_byteOf_14 : decode cX8_byteOf 14 = .ok (.if_icmp .ge 7, 3) := by decide +kernel
theorem dX8_byteOf_17 : decode cX8_byteOf 17 = .ok (.iload_n 1, 1) := by decide +kernel
theorem dX8_byteOf_18 : decode cX8_byteOf 18 = .ok (.goto 27, 3) := by decide +kernel
theorem dX8_byteOf_21 : decode cX8_byteOf 21 = .ok (.iload 5, 2) := by decide +kernel
theorem dX8_byteOf_23 : decode cX8_byteOf 23 = .ok (.bipush 12, 2) := by decide +kernel
theorem dX8_byteOf_25 : decode cX8_byteOf 25 = .ok (.if_icmp .ge 7, 3) := by decide +kernel
theorem dX8_byteOf_28 : decode cX8_byteOf 28 = .ok (.iload_n 2, 1) := by decide +kernel
theorem dX8_byteOf_29 : decode cX8_byteOf 29 = .ok (.goto 16, 3) := by decide +kernel
theorem dX8_byteOf_32 : decode cX8_byteOf 32 = .ok (.iload 5, 2) := by decide +kernel
theorem dX8_byteOf_34 : decode cX8_byteOf 34 = .ok (.bipush 16, 2) := by decide +kernel
theorem dX8_byteOf_36 : decode cX8_byteOf 36 = .ok (.if_icmp .ge 7, 3) := by decide +kernel
theorem dX8_byteOf_39 : decode cX8_byteOf 39 = .ok (.iload_n 3, 1) := by decide +kernel
theorem dX8_byteOf_40 : decode cX8_byteOf 40 = .ok (.goto 5, 3) := by decide +kernel
theorem dX8_byteOf_43 : decode cX8_byteOf 43 = .ok (.iload 4, 2) := by decide +kernel
theorem dX8_byteOf_45 : decode cX8_byteOf 45 = .ok (.istore 6, 2) := by decide +kernel
theorem dX8_byteOf_47 : decode cX8_byteOf 47 = .ok (.iload 6, 2) := by decide +kernel
theorem dX8_byteOf_49 : decode cX8_byteOf 49 = .ok (.bipush 24, 2) := by decide +kernel
theorem dX8_byteOf_51 : decode cX8_byteOf 51 = .ok (.bipush 8, 2) := by decide +kernel
theorem dX8_byteOf_53 : decode cX8_byteOf 53 = .ok (.iload 5, 2) := by decide +kernel
theorem dX8_byteOf_55 : decode cX8_byteOf 55 = .ok (.iconst 4, 1) := by decide +kernel
theorem dX8_byteOf_56 : decode cX8_byteOf 56 = .ok (.irem, 1) := by decide +kernel
theorem dX8_byteOf_57 : decode cX8_byteOf 57 = .ok (.imul, 1) := by decide +kernel
theorem dX8_byteOf_58 : decode cX8_byteOf 58 = .ok (.isub, 1) := by decide +kernel
theorem dX8_byteOf_59 : decode cX8_byteOf 59 = .ok (.ishr, 1) := by decide +kernel
theorem dX8_byteOf_60 : decode cX8_byteOf 60 = .ok (.sipush 255, 3) := by decide +kernel
theorem dX8_byteOf_63 : decode cX8_byteOf 63 = .ok (.iand, 1) := by decide +kernel
theorem dX8_byteOf_64 : decode cX8_byteOf 64 = .ok (.ireturn, 1) := by decide +kernel
def fM_byteOf (u : Nat) (a1 : Int32) (a2 : Int32) (a3 : Int32) (a4 : Int32) (a5 : Int32) (a6 : Int32) : Option (Int32) :=
  (if (iz 4) ≤ a6 then
     if (iz 8) ≤ a6 then
       if (iz 12) ≤ a6 then
         if (iz 16) ≤ a6 then
           some a5
         else
           some a4
       else
         some a3
     else
       some a2
   else
     some a1 : Option (Int32)).bind fun s1 =>
  (nx_rm32 a6 (iz 4)).bind fun x2 =>
  some ((s1 >>> (((iz 24) - ((iz 8) * x2)) &&& 31)) &&& (iz 255))
set_option maxRecDepth 4000 in
theorem jM_byteOf {Γ : nx_G} {M : nx_M} (u : Nat) (a1 : Int32) (a2 : Int32) (a3 : Int32) (a4 : Int32) (a5 : Int32) (a6 : Int32)   (X : nx_X) (Z : nx_Z) : nx_J Γ X (RX8, cX8_byteOf, 7, (some .int), "byteOf", 1) Z (fun r0 : Int32 => .inr (some (.int r0), M)) (.inl (0, [some (.int a1), some (.int a2), some (.int a3), some (.int a4), some (.int a5), some (.int a6), none], [], M)) (fM_byteOf u a1 a2 a3 a4 a5 a6) := by
  unfold fM_byteOf
  refine nx_iload rfl dX8_byteOf_0 rfl ?_
  refine nx_iconst dX8_byteOf_2 rfl ?_
  refine nx_seq (C1 := fun s1 : Int32 => .inl (45, [some (.int a1), some (.int a2), some (.int a3), some (.int a4), some (.int a5), some (.int a6), none], [.int s1], M)) ?_ (fun s1 => ?_)
  · refine nx_icmp_ge (t := 10) dX8_byteOf_3 (by decide) rfl ?_ ?_
    · refine nx_iload rfl dX8_byteOf_10 rfl ?_
      refine nx_bipush (by decide +kernel) dX8_byteOf_12 rfl ?_
      refine nx_icmp_ge (t := 21) dX8_byteOf_14 (by decide) rfl ?_ ?_
      · refine nx_iload rfl dX8_byteOf_21 rfl ?_
        refine nx_bipush (by decide +kernel) dX8_byteOf_23 rfl ?_
        refine nx_icmp_ge (t := 32) dX8_byteOf_25 (by decide) rfl ?_ ?_
        · refine nx_iload rfl dX8_byteOf_32 rfl ?_
          refine nx_bipush (by decide +kernel) dX8_byteOf_34 rfl ?_
          refine nx_icmp_ge (t := 43) dX8_byteOf_36 (by decide) rfl ?_ ?_
          · refine nx_iload rfl dX8_byteOf_43 rfl ?_
            exact nx_leaf rfl
          · refine nx_iload_n rfl dX8_byteOf_39 rfl ?_
            refine nx_goto (q := 45) dX8_byteOf_40 (by decide) ?_
            exact nx_leaf rfl
        · refine nx_iload_n rfl dX8_byteOf_28 rfl ?_
          refine nx_goto (q := 45) dX8_byteOf_29 (by decide) ?_
          exact nx_leaf rfl
      · refine nx_iload_n rfl dX8_byteOf_17 rfl ?_
        refine nx_goto (q := 45) dX8_byteOf_18 (by decide) ?_
        exact nx_leaf rfl
    · refine nx_iload_n rfl dX8_byteOf_6 rfl ?_
      refine nx_goto (q := 45) dX8_byteOf_7 (by decide) ?_
      exact nx_leaf rfl
  refine nx_istore [some (.int a1), some (.int a2), some (.int a3), some (.int a4), some (.int a5), some (.int a6), some (.int s1)] dX8_byteOf_45 rfl (Nat.le_of_ble_eq_true rfl) rfl rfl ?_
  refine nx_iload rfl dX8_byteOf_47 rfl ?_
  refine nx_bipush (by decide +kernel) dX8_byteOf_49 rfl ?_
  refine nx_bipush (by decide +kernel) dX8_byteOf_51 rfl ?_
  refine nx_iload rfl dX8_byteOf_53 rfl ?_
  refine nx_iconst dX8_byteOf_55 rfl ?_
  refine nx_irem dX8_byteOf_56 rfl (fun x2 => ?_)
  refine nx_imul dX8_byteOf_57 rfl ?_
  refine nx_isub dX8_byteOf_58 rfl ?_
  refine nx_ishr dX8_byteOf_59 rfl ?_
  refine nx_sipush (by decide +kernel) dX8_byteOf_60 rfl ?_
  refine nx_iand dX8_byteOf_63 rfl ?_
  exact nx_iret dX8_byteOf_64 rfl rfl
theorem cM_byteOf (l : Launch) {Γ : nx_G} {M : nx_M} {u : Nat} {a1 : Int32} {a2 : Int32} {a3 : Int32} {a4 : Int32} {a5 : Int32} {a6 : Int32} {r : Int32}  (h : fM_byteOf u a1 a2 a3 a4 a5 a6 = some r) : nx_Ct l Γ 1 yX8_byteOf cX8_byteOf 7 (some .int) [.int a1, .int a2, .int a3, .int a4, .int a5, .int a6] M (some (.int r), M) :=
  nx_ct (out := fun r0 : Int32 => (some (.int r0), M)) [some (.int a1), some (.int a2), some (.int a3), some (.int a4), some (.int a5), some (.int a6), none] pn_RX8 h (Nat.le_of_ble_eq_true rfl) rfl (fun X Z _ => jM_byteOf  u a1 a2 a3 a4 a5 a6 X Z)
theorem dX8_feed_0 : decode cX8_feed 0 = .ok (.iconst 0, 1) := by decide +kernel
theorem dX8_feed_1 : decode cX8_feed 1 = .ok (.istore 6, 2) := by decide +kernel
theorem dX8_feed_3 : decode cX8_feed 3 = .ok (.iconst 0, 1) := by decide +kernel
theorem dX8_feed_4 : decode cX8_feed 4 = .ok (.istore 7, 2) := by decide +kernel
theorem dX8_feed_6 : decode cX8_feed 6 = .ok (.iload 7, 2) := by decide +kernel
theorem dX8_feed_8 : decode cX8_feed 8 = .ok (.bipush 20, 2) := by decide +kernel
theorem dX8_feed_10 : decode cX8_feed 10 = .ok (.if_icmp .ge 34, 3) := by decide +kernel
theorem dX8_feed_13 : decode cX8_feed 13 = .ok (.iload 6, 2) := by decide +kernel
theorem dX8_feed_15 : decode cX8_feed 15 = .ok (.iload_n 1, 1) := by decide +kernel
theorem dX8_feed_16 : decode cX8_feed 16 = .ok (.iload_n 2, 1) := by decide +kernel
theorem dX8_feed_17 : decode cX8_feed 17 = .ok (.iload_n 3, 1) := by decide +kernel
theorem dX8_feed_18 : decode cX8_feed 18 = .ok (.iload 4, 2) := by decide +kernel
theorem dX8_feed_20 : decode cX8_feed 20 = .ok (.iload 5, 2) := by decide +kernel
theorem dX8_feed_22 : decode cX8_feed 22 = .ok (.iload 7, 2) := by decide +kernel
theorem dX8_feed_24 : decode cX8_feed 24 = .ok (.invokestatic 54, 3) := by decide +kernel
theorem dX8_feed_27 : decode cX8_feed 27 = .ok (.ifCond .eq 7, 3) := by decide +kernel
theorem dX8_feed_30 : decode cX8_feed 30 = .ok (.iconst 1, 1) := by decide +kernel
theorem dX8_feed_31 : decode cX8_feed 31 = .ok (.goto 4, 3) := by decide +kernel
theorem dX8_feed_34 : decode cX8_feed 34 = .ok (.iconst 0, 1) := by decide +kernel
theorem dX8_feed_35 : decode cX8_feed 35 = .ok (.iadd, 1) := by decide +kernel
theorem dX8_feed_36 : decode cX8_feed 36 = .ok (.istore 6, 2) := by decide +kernel
theorem dX8_feed_38 : decode cX8_feed 38 = .ok (.iinc 7 1, 3) := by decide +kernel
theorem dX8_feed_41 : decode cX8_feed 41 = .ok (.goto (-35), 3) := by decide +kernel
theorem dX8_feed_44 : decode cX8_feed 44 = .ok (.aload_n 0, 1) := by decide +kernel
theorem dX8_feed_45 : decode cX8_feed 45 = .ok (.getfield 58, 3) := by decide +kernel
theorem dX8_feed_48 : decode cX8_feed 48 = .ok (.iload 6, 2) := by decide +kernel
theorem dX8_feed_50 : decode cX8_feed 50 = .ok (.iadd, 1) := by decide +kernel
theorem dX8_feed_51 : decode cX8_feed 51 = .ok (.sipush 240, 3) := by decide +kernel
theorem dX8_feed_54 : decode cX8_feed 54 = .ok (.if_icmp .le 5, 3) := by decide +kernel
theorem dX8_feed_57 : decode cX8_feed 57 = .ok (.iconst (-1), 1) := by decide +kernel
theorem dX8_feed_58 : decode cX8_feed 58 = .ok (.ireturn, 1) := by decide +kernel
theorem dX8_feed_59 : decode cX8_feed 59 = .ok (.iconst 0, 1) := by decide +kernel
theorem dX8_feed_60 : decode cX8_feed 60 = .ok (.istore 7, 2) := by decide +kernel
theorem dX8_feed_62 : decode cX8_feed 62 = .ok (.iload 7, 2) := by decide +kernel
theorem dX8_feed_64 : decode cX8_feed 64 = .ok (.bipush 20, 2) := by decide +kernel
theorem dX8_feed_66 : decode cX8_feed 66 = .ok (.if_icmp .ge 49, 3) := by decide +kernel
theorem dX8_feed_69 : decode cX8_feed 69 = .ok (.iload_n 1, 1) := by decide +kernel
theorem dX8_feed_70 : decode cX8_feed 70 = .ok (.iload_n 2, 1) := by decide +kernel
theorem dX8_feed_71 : decode cX8_feed 71 = .ok (.iload_n 3, 1) := by decide +kernel
theorem dX8_feed_72 : decode cX8_feed 72 = .ok (.iload 4, 2) := by decide +kernel
theorem dX8_feed_74 : decode cX8_feed 74 = .ok (.iload 5, 2) := by decide +kernel
theorem dX8_feed_76 : decode cX8_feed 76 = .ok (.iload 7, 2) := by decide +kernel
theorem dX8_feed_78 : decode cX8_feed 78 = .ok (.invokestatic 54, 3) := by decide +kernel
theorem dX8_feed_81 : decode cX8_feed 81 = .ok (.istore 8, 2) := by decide +kernel
theorem dX8_feed_83 : decode cX8_feed 83 = .ok (.iload 8, 2) := by decide +kernel
theorem dX8_feed_85 : decode cX8_feed 85 = .ok (.ifCond .eq 24, 3) := by decide +kernel
theorem dX8_feed_88 : decode cX8_feed 88 = .ok (.aload_n 0, 1) := by decide +kernel
theorem dX8_feed_89 : decode cX8_feed 89 = .ok (.getfield 9, 3) := by decide +kernel
theorem dX8_feed_92 : decode cX8_feed 92 = .ok (.aload_n 0, 1) := by decide +kernel
theorem dX8_feed_93 : decode cX8_feed 93 = .ok (.getfield 58, 3) := by decide +kernel
theorem dX8_feed_96 : decode cX8_feed 96 = .ok (.iload 8, 2) := by decide +kernel
theorem dX8_feed_98 : decode cX8_feed 98 = .ok (.iastore, 1) := by decide +kernel
theorem dX8_feed_99 : decode cX8_feed 99 = .ok (.aload_n 0, 1) := by decide +kernel
theorem dX8_feed_100 : decode cX8_feed 100 = .ok (.dup, 1) := by decide +kernel
theorem dX8_feed_101 : decode cX8_feed 101 = .ok (.getfield 58, 3) := by decide +kernel
theorem dX8_feed_104 : decode cX8_feed 104 = .ok (.iconst 1, 1) := by decide +kernel
theorem dX8_feed_105 : decode cX8_feed 105 = .ok (.iadd, 1) := by decide +kernel
theorem dX8_feed_106 : decode cX8_feed 106 = .ok (.putfield 58, 3) := by decide +kernel
theorem dX8_feed_109 : decode cX8_feed 109 = .ok (.iinc 7 1, 3) := by decide +kernel
theorem dX8_feed_112 : decode cX8_feed 112 = .ok (.goto (-50), 3) := by decide +kernel
theorem dX8_feed_115 : decode cX8_feed 115 = .ok (.aload_n 0, 1) := by decide +kernel
theorem dX8_feed_116 : decode cX8_feed 116 = .ok (.getfield 58, 3) := by decide +kernel
theorem dX8_feed_119 : decode cX8_feed 119 = .ok (.ireturn, 1) := by decide +kernel
def fM_feed_6 (u : Nat) (a1 : Int32) (a2 : Int32) (a3 : Int32) (a4 : Int32) (a5 : Int32) (s1 : Int32 × Int32) : Option ((Int32 × Int32) ⊕ (Int32)) :=
  if (iz 20) ≤ s1.2 then
    some (.inr s1.1)
  else
    (fM_byteOf u a1 a2 a3 a4 a5 s1.2).bind fun x2 =>
    (if x2 = iz 0 then
       some (iz 0)
     else
       some (iz 1) : Option (Int32)).bind fun s3 =>
    some (.inl ((s1.1 + s3), (s1.2 + iz 1)))
def fM_feed_62 (u : Nat) (a1 : Int32) (a2 : Int32) (a3 : Int32) (a4 : Int32) (a5 : Int32) (s5 : Int32 × mS) : Option ((Int32 × mS) ⊕ (mS)) :=
  if (iz 20) ≤ s5.1 then
    some (.inr s5.2)
  else
    (fM_byteOf u a1 a2 a3 a4 a5 s5.1).bind fun x6 =>
    (if x6 = iz 0 then
       some s5.2
     else
       (mWr s5.2 1 (s5.2.1 0 2) x6).bind fun g7 =>
       (some (mFs g7 2 ((g7.1 0 2) + (iz 1)))).bind fun g8 =>
       some g8 : Option (mS)).bind fun s9 =>
    some (.inl ((s5.1 + iz 1), s9))
def fM_feed (u : Nat) (g : mS) (a1 : Int32) (a2 : Int32) (a3 : Int32) (a4 : Int32) (a5 : Int32) : Option (Int32 × mS) :=
  (nx_iter u (fM_feed_6 u a1 a2 a3 a4 a5) ((iz 0), (iz 0))).bind fun e4 =>
  if ((g.1 0 2) + e4) ≤ (iz 240) then
    (nx_iter u (fM_feed_62 u a1 a2 a3 a4 a5) ((iz 0), g)).bind fun e10 =>
    some ((e10.1 0 2), e10)
  else
    some ((iz (-1)), g)
set_option maxRecDepth 4000 in
theorem jM_feed_6 {Γ : nx_G} {M0 : nx_M} {m : Nat} (u : Nat) (g : mS) (a1 : Int32) (a2 : Int32) (a3 : Int32) (a4 : Int32) (a5 : Int32)   (X : nx_X) (Z : nx_Z) (s1 : Int32 × Int32) : nx_J Γ X (RX8, cX8_feed, 9, (some .int), "feed", 2) Z (Sum.elim (fun s1 : Int32 × Int32 => .inl (6, [some (.ref m), some (.int a1), some (.int a2), some (.int a3), some (.int a4), some (.int a5), some (.int s1.1), some (.int s1.2), none], [], (mW Γ M0 m g))) (fun e4 : Int32 => .inl (44, [some (.ref m), some (.int a1), some (.int a2), some (.int a3), some (.int a4), some (.int a5), some (.int e4), none, none], [], (mW Γ M0 m g)))) (.inl (6, [some (.ref m), some (.int a1), some (.int a2), some (.int a3), some (.int a4), some (.int a5), some (.int s1.1), some (.int s1.2), none], [], (mW Γ M0 m g))) (fM_feed_6 u a1 a2 a3 a4 a5 s1) := by
  unfold fM_feed_6
  refine nx_iload rfl dX8_feed_6 rfl ?_
  refine nx_bipush (by decide +kernel) dX8_feed_8 rfl ?_
  refine nx_icmp_ge (t := 44) dX8_feed_10 (by decide) rfl ?_ ?_
  · refine nx_weak (ls' := [some (.ref m), some (.int a1), some (.int a2), some (.int a3), some (.int a4), some (.int a5), some (.int s1.1), none, none]) (nx_wk_s (nx_wk_s (nx_wk_s (nx_wk_s (nx_wk_s (nx_wk_s (nx_wk_s (nx_wk_n (nx_wk_n nx_wk_e))))))))) ?_
    obtain ⟨_, _⟩ := s1
    exact nx_leaf rfl
  · refine nx_iload rfl dX8_feed_13 rfl ?_
    refine nx_iload_n rfl dX8_feed_15 rfl ?_
    refine nx_iload_n rfl dX8_feed_16 rfl ?_
    refine nx_iload_n rfl dX8_feed_17 rfl ?_
    refine nx_iload rfl dX8_feed_18 rfl ?_
    refine nx_iload rfl dX8_feed_20 rfl ?_
    refine nx_iload rfl dX8_feed_22 rfl ?_
    refine nx_callSr [.int a1, .int a2, .int a3, .int a4, .int a5, .int s1.2] (fun r => .int r) (fun _ => (mW Γ M0 m g)) cw_8_54 wd_1236 (fun r e => cM_byteOf X.2.1  e) rfl rfl (Nat.le_of_ble_eq_true rfl) (Nat.le_of_ble_eq_true rfl) dX8_feed_24 rfl (fun x2 => ?_)
    refine nx_seq (C1 := fun s3 : Int32 => .inl (35, [some (.ref m), some (.int a1), some (.int a2), some (.int a3), some (.int a4), some (.int a5), some (.int s1.1), some (.int s1.2), none], [.int s3, .int s1.1], (mW Γ M0 m g))) ?_ (fun s3 => ?_)
    · refine nx_if_eq (t := 34) dX8_feed_27 (by decide) rfl ?_ ?_
      · refine nx_iconst dX8_feed_34 rfl ?_
        obtain ⟨_, _⟩ := s1
        exact nx_leaf rfl
      · refine nx_iconst dX8_feed_30 rfl ?_
        refine nx_goto (q := 35) dX8_feed_31 (by decide) ?_
        obtain ⟨_, _⟩ := s1
        exact nx_leaf rfl
    refine nx_iadd dX8_feed_35 rfl ?_
    refine nx_istore [some (.ref m), some (.int a1), some (.int a2), some (.int a3), some (.int a4), some (.int a5), some (.int (s1.1 + s3)), some (.int s1.2), none] dX8_feed_36 rfl (Nat.le_of_ble_eq_true rfl) rfl rfl ?_
    refine nx_iinc [some (.ref m), some (.int a1), some (.int a2), some (.int a3), some (.int a4), some (.int a5), some (.int (s1.1 + s3)), some (.int (s1.2 + iz 1)), none] dX8_feed_38 rfl rfl (Nat.le_of_ble_eq_true rfl) rfl rfl ?_
    refine nx_goto (q := 6) dX8_feed_41 (by decide) ?_
    obtain ⟨_, _⟩ := s1
    exact nx_leaf rfl
set_option maxRecDepth 4000 in
theorem jM_feed_62 {Γ : nx_G} {M0 : nx_M} {m : Nat} (u : Nat) (a1 : Int32) (a2 : Int32) (a3 : Int32) (a4 : Int32) (a5 : Int32) (e4 : Int32)   (X : nx_X) (Z : nx_Z) (s5 : Int32 × mS) : nx_J Γ X (RX8, cX8_feed, 9, (some .int), "feed", 2) Z (Sum.elim (fun s5 : Int32 × mS => .inl (62, [some (.ref m), some (.int a1), some (.int a2), some (.int a3), some (.int a4), some (.int a5), some (.int e4), some (.int s5.1), none], [], (mW Γ M0 m s5.2))) (fun e10 : mS => .inl (115, [some (.ref m), some (.int a1), some (.int a2), some (.int a3), some (.int a4), some (.int a5), some (.int e4), none, none], [], (mW Γ M0 m e10)))) (.inl (62, [some (.ref m), some (.int a1), some (.int a2), some (.int a3), some (.int a4), some (.int a5), some (.int e4), some (.int s5.1), none], [], (mW Γ M0 m s5.2))) (fM_feed_62 u a1 a2 a3 a4 a5 s5) := by
  unfold fM_feed_62
  refine nx_iload rfl dX8_feed_62 rfl ?_
  refine nx_bipush (by decide +kernel) dX8_feed_64 rfl ?_
  refine nx_icmp_ge (t := 115) dX8_feed_66 (by decide) rfl ?_ ?_
  · refine nx_weak (ls' := [some (.ref m), some (.int a1), some (.int a2), some (.int a3), some (.int a4), some (.int a5), some (.int e4), none, none]) (nx_wk_s (nx_wk_s (nx_wk_s (nx_wk_s (nx_wk_s (nx_wk_s (nx_wk_s (nx_wk_n (nx_wk_n nx_wk_e))))))))) ?_
    obtain ⟨_, _⟩ := s5
    exact nx_leaf rfl
  · refine nx_iload_n rfl dX8_feed_69 rfl ?_
    refine nx_iload_n rfl dX8_feed_70 rfl ?_
    refine nx_iload_n rfl dX8_feed_71 rfl ?_
    refine nx_iload rfl dX8_feed_72 rfl ?_
    refine nx_iload rfl dX8_feed_74 rfl ?_
    refine nx_iload rfl dX8_feed_76 rfl ?_
    refine nx_callSr [.int a1, .int a2, .int a3, .int a4, .int a5, .int s5.1] (fun r => .int r) (fun _ => (mW Γ M0 m s5.2)) cw_8_54 wd_1236 (fun r e => cM_byteOf X.2.1  e) rfl rfl (Nat.le_of_ble_eq_true rfl) (Nat.le_of_ble_eq_true rfl) dX8_feed_78 rfl (fun x6 => ?_)
    refine nx_istore [some (.ref m), some (.int a1), some (.int a2), some (.int a3), some (.int a4), some (.int a5), some (.int e4), some (.int s5.1), some (.int x6)] dX8_feed_81 rfl (Nat.le_of_ble_eq_true rfl) rfl rfl ?_
    refine nx_iload rfl dX8_feed_83 rfl ?_
    refine nx_seq (C1 := fun s9 : mS => .inl (109, [some (.ref m), some (.int a1), some (.int a2), some (.int a3), some (.int a4), some (.int a5), some (.int e4), some (.int s5.1), some (.int x6)], [], (mW Γ M0 m s9))) ?_ (fun s9 => ?_)
    · refine nx_if_eq (t := 109) dX8_feed_85 (by decide) rfl ?_ ?_
      · obtain ⟨_, _⟩ := s5
        exact nx_leaf rfl
      · refine nx_aload_n rfl dX8_feed_88 rfl ?_
        refine nx_getf fl_8_9 mW_m rfl dX8_feed_89 rfl ?_
        refine nx_aload_n rfl dX8_feed_92 rfl ?_
        refine nx_getf fl_8_58 mW_m rfl dX8_feed_93 rfl ?_
        refine nx_iload rfl dX8_feed_96 rfl ?_
        refine m_iast 1 ⟨Nat.le_of_ble_eq_true rfl, Nat.le_of_ble_eq_true rfl⟩ dX8_feed_98 rfl (fun g7 => ?_)
        refine nx_aload_n rfl dX8_feed_99 rfl ?_
        refine nx_dup rfl dX8_feed_100 rfl ?_
        refine nx_getf fl_8_58 mW_m rfl dX8_feed_101 rfl ?_
        refine nx_iconst dX8_feed_104 rfl ?_
        refine nx_iadd dX8_feed_105 rfl ?_
        refine m_put fl_8_58 ft_8_2 rfl rfl (Nat.le_of_ble_eq_true rfl) rfl dX8_feed_106 rfl (fun g8 => ?_)
        obtain ⟨_, _⟩ := s5
        exact nx_leaf rfl
    refine nx_iinc [some (.ref m), some (.int a1), some (.int a2), some (.int a3), some (.int a4), some (.int a5), some (.int e4), some (.int (s5.1 + iz 1)), some (.int x6)] dX8_feed_109 rfl rfl (Nat.le_of_ble_eq_true rfl) rfl rfl ?_
    refine nx_goto (q := 62) dX8_feed_112 (by decide) ?_
    refine nx_weak (ls' := [some (.ref m), some (.int a1), some (.int a2), some (.int a3), some (.int a4), some (.int a5), some (.int e4), some (.int (s5.1 + iz 1)), none]) (nx_wk_s (nx_wk_s (nx_wk_s (nx_wk_s (nx_wk_s (nx_wk_s (nx_wk_s (nx_wk_s (nx_wk_n nx_wk_e))))))))) ?_
    obtain ⟨_, _⟩ := s5
    exact nx_leaf rfl
set_option maxRecDepth 4000 in
theorem jM_feed {Γ : nx_G} {M0 : nx_M} {m : Nat} (u : Nat) (g : mS) (a1 : Int32) (a2 : Int32) (a3 : Int32) (a4 : Int32) (a5 : Int32)   (X : nx_X) (Z : nx_Z) : nx_J Γ X (RX8, cX8_feed, 9, (some .int), "feed", 2) Z (fun r0 : Int32 × mS => .inr (some (.int r0.1), (mW Γ M0 m r0.2))) (.inl (0, [some (.ref m), some (.int a1), some (.int a2), some (.int a3), some (.int a4), some (.int a5), none, none, none], [], (mW Γ M0 m g))) (fM_feed u g a1 a2 a3 a4 a5) := by
  unfold fM_feed
  refine nx_iconst dX8_feed_0 rfl ?_
  refine nx_istore [some (.ref m), some (.int a1), some (.int a2), some (.int a3), some (.int a4), some (.int a5), some (.int (iz 0)), none, none] dX8_feed_1 rfl (Nat.le_of_ble_eq_true rfl) rfl rfl ?_
  refine nx_iconst dX8_feed_3 rfl ?_
  refine nx_istore [some (.ref m), some (.int a1), some (.int a2), some (.int a3), some (.int a4), some (.int a5), some (.int (iz 0)), some (.int (iz 0)), none] dX8_feed_4 rfl (Nat.le_of_ble_eq_true rfl) rfl rfl ?_
  refine nx_seq (C1 := fun e4 : Int32 => .inl (44, [some (.ref m), some (.int a1), some (.int a2), some (.int a3), some (.int a4), some (.int a5), some (.int e4), none, none], [], (mW Γ M0 m g))) (nx_loop (C1 := fun s1 : Int32 × Int32 => .inl (6, [some (.ref m), some (.int a1), some (.int a2), some (.int a3), some (.int a4), some (.int a5), some (.int s1.1), some (.int s1.2), none], [], (mW Γ M0 m g))) (fun s1 => jM_feed_6  u g a1 a2 a3 a4 a5 X Z s1) ((iz 0), (iz 0))) (fun e4 => ?_)
  refine nx_aload_n rfl dX8_feed_44 rfl ?_
  refine nx_getf fl_8_58 mW_m rfl dX8_feed_45 rfl ?_
  refine nx_iload rfl dX8_feed_48 rfl ?_
  refine nx_iadd dX8_feed_50 rfl ?_
  refine nx_sipush (by decide +kernel) dX8_feed_51 rfl ?_
  refine nx_icmp_le (t := 59) dX8_feed_54 (by decide) rfl ?_ ?_
  · refine nx_iconst dX8_feed_59 rfl ?_
    refine nx_istore [some (.ref m), some (.int a1), some (.int a2), some (.int a3), some (.int a4), some (.int a5), some (.int e4), some (.int (iz 0)), none] dX8_feed_60 rfl (Nat.le_of_ble_eq_true rfl) rfl rfl ?_
    refine nx_seq (C1 := fun e10 : mS => .inl (115, [some (.ref m), some (.int a1), some (.int a2), some (.int a3), some (.int a4), some (.int a5), some (.int e4), none, none], [], (mW Γ M0 m e10))) (nx_loop (C1 := fun s5 : Int32 × mS => .inl (62, [some (.ref m), some (.int a1), some (.int a2), some (.int a3), some (.int a4), some (.int a5), some (.int e4), some (.int s5.1), none], [], (mW Γ M0 m s5.2))) (fun s5 => jM_feed_62  u a1 a2 a3 a4 a5 e4 X Z s5) ((iz 0), g)) (fun e10 => ?_)
    refine nx_aload_n rfl dX8_feed_115 rfl ?_
    refine nx_getf fl_8_58 mW_m rfl dX8_feed_116 rfl ?_
    exact nx_iret dX8_feed_119 rfl rfl
  · refine nx_iconst dX8_feed_57 rfl ?_
    exact nx_iret dX8_feed_58 rfl rfl
theorem cM_feed (l : Launch) {Γ : nx_G} {M0 : nx_M} {m : Nat} {u : Nat} {g : mS} {a1 : Int32} {a2 : Int32} {a3 : Int32} {a4 : Int32} {a5 : Int32} {r : Int32 × mS}  (h : fM_feed u g a1 a2 a3 a4 a5 = some r) : nx_Ct l Γ 2 yX8_feed cX8_feed 9 (some .int) [.ref m, .int a1, .int a2, .int a3, .int a4, .int a5] (mW Γ M0 m g) (some (.int r.1), (mW Γ M0 m r.2)) :=
  nx_ct (out := fun r0 : Int32 × mS => (some (.int r0.1), (mW Γ M0 m r0.2))) [some (.ref m), some (.int a1), some (.int a2), some (.int a3), some (.int a4), some (.int a5), none, none, none] pn_RX8 h (Nat.le_of_ble_eq_true rfl) rfl (fun X Z _ => jM_feed  u g a1 a2 a3 a4 a5 X Z)
theorem dX8_end_0 : decode cX8_end 0 = .ok (.iload_n 1, 1) := by decide +kernel
theorem dX8_end_1 : decode cX8_end 1 = .ok (.iconst 0, 1) := by decide +kernel
theorem dX8_end_2 : decode cX8_end 2 = .ok (.aload_n 0, 1) := by decide +kernel
theorem dX8_end_3 : decode cX8_end 3 = .ok (.getfield 58, 3) := by decide +kernel
theorem dX8_end_6 : decode cX8_end 6 = .ok (.invokestatic 61, 3) := by decide +kernel
theorem dX8_end_9 : decode cX8_end 9 = .ok (.ifCond .ne 5, 3) := by decide +kernel
theorem dX8_end_12 : decode cX8_end 12 = .ok (.iconst 0, 1) := by decide +kernel
theorem dX8_end_13 : decode cX8_end 13 = .ok (.ireturn, 1) := by decide +kernel
theorem dX8_end_14 : decode cX8_end 14 = .ok (.aload_n 0, 1) := by decide +kernel
theorem dX8_end_15 : decode cX8_end 15 = .ok (.iload_n 1, 1) := by decide +kernel
theorem dX8_end_16 : decode cX8_end 16 = .ok (.putfield 58, 3) := by decide +kernel
theorem dX8_end_19 : decode cX8_end 19 = .ok (.iconst 1, 1) := by decide +kernel
theorem dX8_end_20 : decode cX8_end 20 = .ok (.ireturn, 1) := by decide +kernel
def fM_end (u : Nat) (g : mS) (a1 : Int32) : Option (Bool × mS) :=
  (fM_in u a1 (iz 0) (g.1 0 2)).bind fun b1 =>
  if b1 = true then
    (some (mFs g 2 a1)).bind fun g2 =>
    some (true, g2)
  else
    some (false, g)
set_option maxRecDepth 4000 in
theorem jM_end {Γ : nx_G} {M0 : nx_M} {m : Nat} (u : Nat) (g : mS) (a1 : Int32)   (X : nx_X) (Z : nx_Z) : nx_J Γ X (RX8, cX8_end, 2, (some .boolean), "end", 2) Z (fun r0 : Bool × mS => .inr (some (.int (bz r0.1)), (mW Γ M0 m r0.2))) (.inl (0, [some (.ref m), some (.int a1)], [], (mW Γ M0 m g))) (fM_end u g a1) := by
  unfold fM_end
  refine nx_iload_n rfl dX8_end_0 rfl ?_
  refine nx_iconst dX8_end_1 rfl ?_
  refine nx_aload_n rfl dX8_end_2 rfl ?_
  refine nx_getf fl_8_58 mW_m rfl dX8_end_3 rfl ?_
  refine nx_callSr [.int a1, .int (iz 0), .int (g.1 0 2)] (fun r => .int (bz r)) (fun _ => (mW Γ M0 m g)) cw_8_61 wd_1243 (fun r e => cM_in X.2.1  e) rfl rfl (Nat.le_of_ble_eq_true rfl) (Nat.le_of_ble_eq_true rfl) dX8_end_6 rfl (fun b1 => ?_)
  refine nx_ifz_ne (t := 14) dX8_end_9 (by decide) rfl ?_ ?_
  · refine nx_aload_n rfl dX8_end_14 rfl ?_
    refine nx_iload_n rfl dX8_end_15 rfl ?_
    refine m_put fl_8_58 ft_8_2 rfl rfl (Nat.le_of_ble_eq_true rfl) rfl dX8_end_16 rfl (fun g2 => ?_)
    refine nx_iconst dX8_end_19 rfl ?_
    exact nx_zret (b := true) dX8_end_20 rfl rfl
  · refine nx_iconst dX8_end_12 rfl ?_
    exact nx_zret (b := false) dX8_end_13 rfl rfl
theorem cM_end (l : Launch) {Γ : nx_G} {M0 : nx_M} {m : Nat} {u : Nat} {g : mS} {a1 : Int32} {r : Bool × mS}  (h : fM_end u g a1 = some r) : nx_Ct l Γ 2 yX8_end cX8_end 2 (some .boolean) [.ref m, .int a1] (mW Γ M0 m g) (some (.int (bz r.1)), (mW Γ M0 m r.2)) :=
  nx_ct (out := fun r0 : Bool × mS => (some (.int (bz r0.1)), (mW Γ M0 m r0.2))) [some (.ref m), some (.int a1)] pn_RX8 h (Nat.le_of_ble_eq_true rfl) rfl (fun X Z _ => jM_end  u g a1 X Z)
theorem dX8_here_0 : decode cX8_here 0 = .ok (.aload_n 0, 1) := by decide +kernel
theorem dX8_here_1 : decode cX8_here 1 = .ok (.getfield 65, 3) := by decide +kernel
theorem dX8_here_4 : decode cX8_here 4 = .ok (.aload_n 0, 1) := by decide +kernel
theorem dX8_here_5 : decode cX8_here 5 = .ok (.getfield 58, 3) := by decide +kernel
theorem dX8_here_8 : decode cX8_here 8 = .ok (.if_icmp .ge 15, 3) := by decide +kernel
theorem dX8_here_11 : decode cX8_here 11 = .ok (.aload_n 0, 1) := by decide +kernel
theorem dX8_here_12 : decode cX8_here 12 = .ok (.getfield 9, 3) := by decide +kernel
theorem dX8_here_15 : decode cX8_here 15 = .ok (.aload_n 0, 1) := by decide +kernel
theorem dX8_here_16 : decode cX8_here 16 = .ok (.getfield 65, 3) := by decide +kernel
theorem dX8_here_19 : decode cX8_here 19 = .ok (.iaload, 1) := by decide +kernel
theorem dX8_here_20 : decode cX8_here 20 = .ok (.goto 4, 3) := by decide +kernel
theorem dX8_here_23 : decode cX8_here 23 = .ok (.iconst (-1), 1) := by decide +kernel
theorem dX8_here_24 : decode cX8_here 24 = .ok (.ireturn, 1) := by decide +kernel
def fM_here (u : Nat) (g : mS) : Option (Int32) :=
  if (g.1 0 2) ≤ (g.1 0 3) then
    some (iz (-1))
  else
    (nx_rd (mlen 1) (g.1 1) (g.1 0 3)).bind fun x1 =>
    some x1
set_option maxRecDepth 4000 in
theorem jM_here {Γ : nx_G} {M0 : nx_M} {m : Nat} (u : Nat) (g : mS)   (X : nx_X) (Z : nx_Z) : nx_J Γ X (RX8, cX8_here, 1, (some .int), "here", 1) Z (fun r0 : Int32 => .inr (some (.int r0), (mW Γ M0 m g))) (.inl (0, [some (.ref m)], [], (mW Γ M0 m g))) (fM_here u g) := by
  unfold fM_here
  refine nx_aload_n rfl dX8_here_0 rfl ?_
  refine nx_getf fl_8_65 mW_m rfl dX8_here_1 rfl ?_
  refine nx_aload_n rfl dX8_here_4 rfl ?_
  refine nx_getf fl_8_58 mW_m rfl dX8_here_5 rfl ?_
  refine nx_icmp_ge (t := 23) dX8_here_8 (by decide) rfl ?_ ?_
  · refine nx_iconst dX8_here_23 rfl ?_
    exact nx_iret dX8_here_24 rfl rfl
  · refine nx_aload_n rfl dX8_here_11 rfl ?_
    refine nx_getf fl_8_9 mW_m rfl dX8_here_12 rfl ?_
    refine nx_aload_n rfl dX8_here_15 rfl ?_
    refine nx_getf fl_8_65 mW_m rfl dX8_here_16 rfl ?_
    refine m_iald 1 ⟨Nat.le_of_ble_eq_true rfl, Nat.le_of_ble_eq_true rfl⟩ dX8_here_19 rfl (fun x1 => ?_)
    refine nx_goto (q := 24) dX8_here_20 (by decide) ?_
    exact nx_iret dX8_here_24 rfl rfl
theorem cM_here (l : Launch) {Γ : nx_G} {M0 : nx_M} {m : Nat} {u : Nat} {g : mS} {r : Int32}  (h : fM_here u g = some r) : nx_Ct l Γ 1 yX8_here cX8_here 1 (some .int) [.ref m] (mW Γ M0 m g) (some (.int r), (mW Γ M0 m g)) :=
  nx_ct (out := fun r0 : Int32 => (some (.int r0), (mW Γ M0 m g))) [some (.ref m)] pn_RX8 h (Nat.le_of_ble_eq_true rfl) rfl (fun X Z _ => jM_here  u g X Z)
theorem dX8_ahead_0 : decode cX8_ahead 0 = .ok (.aload_n 0, 1) := by decide +kernel
theorem dX8_ahead_1 : decode cX8_ahead 1 = .ok (.invokevirtual 68, 3) := by decide +kernel
theorem dX8_ahead_4 : decode cX8_ahead 4 = .ok (.bipush 32, 2) := by decide +kernel
theorem dX8_ahead_6 : decode cX8_ahead 6 = .ok (.if_icmp .ne 16, 3) := by decide +kernel
theorem dX8_ahead_9 : decode cX8_ahead 9 = .ok (.aload_n 0, 1) := by decide +kernel
theorem dX8_ahead_10 : decode cX8_ahead 10 = .ok (.dup, 1) := by decide +kernel
theorem dX8_ahead_11 : decode cX8_ahead 11 = .ok (.getfield 65, 3) := by decide +kernel
theorem dX8_ahead_14 : decode cX8_ahead 14 = .ok (.iconst 1, 1) := by decide +kernel
theorem dX8_ahead_15 : decode cX8_ahead 15 = .ok (.iadd, 1) := by decide +kernel
theorem dX8_ahead_16 : decode cX8_ahead 16 = .ok (.putfield 65, 3) := by decide +kernel
theorem dX8_ahead_19 : decode cX8_ahead 19 = .ok (.goto (-19), 3) := by decide +kernel
theorem dX8_ahead_22 : decode cX8_ahead 22 = .ok (.aload_n 0, 1) := by decide +kernel
theorem dX8_ahead_23 : decode cX8_ahead 23 = .ok (.invokevirtual 68, 3) := by decide +kernel
theorem dX8_ahead_26 : decode cX8_ahead 26 = .ok (.ireturn, 1) := by decide +kernel
def fM_ahead_0 (u : Nat) (s1 : mS) : Option ((mS) ⊕ (mS)) :=
  (fM_here u s1).bind fun x2 =>
  if x2 = (iz 32) then
    (some (mFs s1 3 ((s1.1 0 3) + (iz 1)))).bind fun g3 =>
    some (.inl g3)
  else
    some (.inr s1)
def fM_ahead (u : Nat) (g : mS) : Option (Int32 × mS) :=
  (nx_iter u (fM_ahead_0 u) g).bind fun e4 =>
  (fM_here u e4).bind fun x5 =>
  some (x5, e4)
set_option maxRecDepth 4000 in
theorem jM_ahead_0 {Γ : nx_G} {M0 : nx_M} {m : Nat} (u : Nat)   (X : nx_X) (Z : nx_Z) (s1 : mS) : nx_J Γ X (RX8, cX8_ahead, 1, (some .int), "ahead", 2) Z (Sum.elim (fun s1 : mS => .inl (0, [some (.ref m)], [], (mW Γ M0 m s1))) (fun e4 : mS => .inl (22, [some (.ref m)], [], (mW Γ M0 m e4)))) (.inl (0, [some (.ref m)], [], (mW Γ M0 m s1))) (fM_ahead_0 u s1) := by
  unfold fM_ahead_0
  refine nx_aload_n rfl dX8_ahead_0 rfl ?_
  refine nx_callVr [] (fun r => .int r) (fun _ => (mW Γ M0 m s1)) cw_8_68 cv_X8_here (fun r e => cM_here X.2.1  e) mW_m rfl rfl (Nat.le_of_ble_eq_true rfl) (Nat.le_of_ble_eq_true rfl) dX8_ahead_1 rfl (fun x2 => ?_)
  refine nx_bipush (by decide +kernel) dX8_ahead_4 rfl ?_
  refine nx_icmp_ne (t := 22) dX8_ahead_6 (by decide) rfl ?_ ?_
  · exact nx_leaf rfl
  · refine nx_aload_n rfl dX8_ahead_9 rfl ?_
    refine nx_dup rfl dX8_ahead_10 rfl ?_
    refine nx_getf fl_8_65 mW_m rfl dX8_ahead_11 rfl ?_
    refine nx_iconst dX8_ahead_14 rfl ?_
    refine nx_iadd dX8_ahead_15 rfl ?_
    refine m_put fl_8_65 ft_8_3 rfl rfl (Nat.le_of_ble_eq_true rfl) rfl dX8_ahead_16 rfl (fun g3 => ?_)
    refine nx_goto (q := 0) dX8_ahead_19 (by decide) ?_
    exact nx_leaf rfl
set_option maxRecDepth 4000 in
theorem jM_ahead {Γ : nx_G} {M0 : nx_M} {m : Nat} (u : Nat) (g : mS)   (X : nx_X) (Z : nx_Z) : nx_J Γ X (RX8, cX8_ahead, 1, (some .int), "ahead", 2) Z (fun r0 : Int32 × mS => .inr (some (.int r0.1), (mW Γ M0 m r0.2))) (.inl (0, [some (.ref m)], [], (mW Γ M0 m g))) (fM_ahead u g) := by
  unfold fM_ahead
  refine nx_seq (C1 := fun e4 : mS => .inl (22, [some (.ref m)], [], (mW Γ M0 m e4))) (nx_loop (C1 := fun s1 : mS => .inl (0, [some (.ref m)], [], (mW Γ M0 m s1))) (fun s1 => jM_ahead_0  u X Z s1) g) (fun e4 => ?_)
  refine nx_aload_n rfl dX8_ahead_22 rfl ?_
  refine nx_callVr [] (fun r => .int r) (fun _ => (mW Γ M0 m e4)) cw_8_68 cv_X8_here (fun r e => cM_here X.2.1  e) mW_m rfl rfl (Nat.le_of_ble_eq_true rfl) (Nat.le_of_ble_eq_true rfl) dX8_ahead_23 rfl (fun x5 => ?_)
  exact nx_iret dX8_ahead_26 rfl rfl
theorem cM_ahead (l : Launch) {Γ : nx_G} {M0 : nx_M} {m : Nat} {u : Nat} {g : mS} {r : Int32 × mS}  (h : fM_ahead u g = some r) : nx_Ct l Γ 2 yX8_ahead cX8_ahead 1 (some .int) [.ref m] (mW Γ M0 m g) (some (.int r.1), (mW Γ M0 m r.2)) :=
  nx_ct (out := fun r0 : Int32 × mS => (some (.int r0.1), (mW Γ M0 m r0.2))) [some (.ref m)] pn_RX8 h (Nat.le_of_ble_eq_true rfl) rfl (fun X Z _ => jM_ahead  u g X Z)
theorem dX8_bad_0 : decode cX8_bad 0 = .ok (.aload_n 0, 1) := by decide +kernel
theorem dX8_bad_1 : decode cX8_bad 1 = .ok (.aload_n 0, 1) := by decide +kernel
theorem dX8_bad_2 : decode cX8_bad 2 = .ok (.getfield 72, 3) := by decide +kernel
theorem dX8_bad_5 : decode cX8_bad 5 = .ok (.iconst (-1), 1) := by decide +kernel
theorem dX8_bad_6 : decode cX8_bad 6 = .ok (.if_icmp .ne 10, 3) := by decide +kernel
theorem dX8_bad_9 : decode cX8_bad 9 = .ok (.aload_n 0, 1) := by decide +kernel
theorem dX8_bad_10 : decode cX8_bad 10 = .ok (.getfield 65, 3) := by decide +kernel
theorem dX8_bad_13 : decode cX8_bad 13 = .ok (.goto 7, 3) := by decide +kernel
theorem dX8_bad_16 : decode cX8_bad 16 = .ok (.aload_n 0, 1) := by decide +kernel
theorem dX8_bad_17 : decode cX8_bad 17 = .ok (.getfield 72, 3) := by decide +kernel
theorem dX8_bad_20 : decode cX8_bad 20 = .ok (.putfield 72, 3) := by decide +kernel
theorem dX8_bad_23 : decode cX8_bad 23 = .ok (.return_, 1) := by decide +kernel
def fM_bad (u : Nat) (g : mS) : Option (mS) :=
  (if (g.1 0 4) = (iz (-1)) then
     some (g.1 0 3)
   else
     some (g.1 0 4) : Option (Int32)).bind fun s1 =>
  (some (mFs g 4 s1)).bind fun g2 =>
  some g2
set_option maxRecDepth 4000 in
theorem jM_bad {Γ : nx_G} {M0 : nx_M} {m : Nat} (u : Nat) (g : mS)   (X : nx_X) (Z : nx_Z) : nx_J Γ X (RX8, cX8_bad, 1, none, "bad", 1) Z (fun r0 : mS => .inr (none, (mW Γ M0 m r0))) (.inl (0, [some (.ref m)], [], (mW Γ M0 m g))) (fM_bad u g) := by
  unfold fM_bad
  refine nx_aload_n rfl dX8_bad_0 rfl ?_
  refine nx_aload_n rfl dX8_bad_1 rfl ?_
  refine nx_getf fl_8_72 mW_m rfl dX8_bad_2 rfl ?_
  refine nx_iconst dX8_bad_5 rfl ?_
  refine nx_seq (C1 := fun s1 : Int32 => .inl (20, [some (.ref m)], [.int s1, .ref m], (mW Γ M0 m g))) ?_ (fun s1 => ?_)
  · refine nx_icmp_ne (t := 16) dX8_bad_6 (by decide) rfl ?_ ?_
    · refine nx_aload_n rfl dX8_bad_16 rfl ?_
      refine nx_getf fl_8_72 mW_m rfl dX8_bad_17 rfl ?_
      exact nx_leaf rfl
    · refine nx_aload_n rfl dX8_bad_9 rfl ?_
      refine nx_getf fl_8_65 mW_m rfl dX8_bad_10 rfl ?_
      refine nx_goto (q := 20) dX8_bad_13 (by decide) ?_
      exact nx_leaf rfl
  refine m_put fl_8_72 ft_8_4 rfl rfl (Nat.le_of_ble_eq_true rfl) rfl dX8_bad_20 rfl (fun g2 => ?_)
  exact nx_vret dX8_bad_23 rfl rfl
theorem cM_bad (l : Launch) {Γ : nx_G} {M0 : nx_M} {m : Nat} {u : Nat} {g : mS} {r : mS}  (h : fM_bad u g = some r) : nx_Ct l Γ 1 yX8_bad cX8_bad 1 none [.ref m] (mW Γ M0 m g) (none, (mW Γ M0 m r)) :=
  nx_ct (out := fun r0 : mS => (none, (mW Γ M0 m r0))) [some (.ref m)] pn_RX8 h (Nat.le_of_ble_eq_true rfl) rfl (fun X Z _ => jM_bad  u g X Z)
theorem dX8_isDigit_0 : decode cX8_isDigit 0 = .ok (.iload_n 0, 1) := by decide +kernel
theorem dX8_isDigit_1 : decode cX8_isDigit 1 = .ok (.bipush 48, 2) := by decide +kernel
theorem dX8_isDigit_3 : decode cX8_isDigit 3 = .ok (.if_icmp .lt 13, 3) := by decide +kernel
theorem dX8_isDigit_6 : decode cX8_isDigit 6 = .ok (.iload_n 0, 1) := by decide +kernel
theorem dX8_isDigit_7 : decode cX8_isDigit 7 = .ok (.bipush 57, 2) := by decide +kernel
theorem dX8_isDigit_9 : decode cX8_isDigit 9 = .ok (.if_icmp .gt 7, 3) := by decide +kernel
theorem dX8_isDigit_12 : decode cX8_isDigit 12 = .ok (.iconst 1, 1) := by decide +kernel
theorem dX8_isDigit_13 : decode cX8_isDigit 13 = .ok (.goto 4, 3) := by decide +kernel
theorem dX8_isDigit_16 : decode cX8_isDigit 16 = .ok (.iconst 0, 1) := by decide +kernel
theorem dX8_isDigit_17 : decode cX8_isDigit 17 = .ok (.ireturn, 1) := by decide +kernel
def fM_isDigit (u : Nat) (a1 : Int32) : Option (Bool) :=
  if a1 < (iz 48) then
    some false
  else
    if (iz 57) < a1 then
      some false
    else
      some true
set_option maxRecDepth 4000 in
theorem jM_isDigit {Γ : nx_G} {M : nx_M} (u : Nat) (a1 : Int32)   (X : nx_X) (Z : nx_Z) : nx_J Γ X (RX8, cX8_isDigit, 1, (some .boolean), "isDigit", 1) Z (fun r0 : Bool => .inr (some (.int (bz r0)), M)) (.inl (0, [some (.int a1)], [], M)) (fM_isDigit u a1) := by
  unfold fM_isDigit
  refine nx_iload_n rfl dX8_isDigit_0 rfl ?_
  refine nx_bipush (by decide +kernel) dX8_isDigit_1 rfl ?_
  refine nx_icmp_lt (t := 16) dX8_isDigit_3 (by decide) rfl ?_ ?_
  · refine nx_iconst dX8_isDigit_16 rfl ?_
    exact nx_zret (b := false) dX8_isDigit_17 rfl rfl
  · refine nx_iload_n rfl dX8_isDigit_6 rfl ?_
    refine nx_bipush (by decide +kernel) dX8_isDigit_7 rfl ?_
    refine nx_icmp_gt (t := 16) dX8_isDigit_9 (by decide) rfl ?_ ?_
    · refine nx_iconst dX8_isDigit_16 rfl ?_
      exact nx_zret (b := false) dX8_isDigit_17 rfl rfl
    · refine nx_iconst dX8_isDigit_12 rfl ?_
      refine nx_goto (q := 17) dX8_isDigit_13 (by decide) ?_
      exact nx_zret (b := true) dX8_isDigit_17 rfl rfl
theorem cM_isDigit (l : Launch) {Γ : nx_G} {M : nx_M} {u : Nat} {a1 : Int32} {r : Bool}  (h : fM_isDigit u a1 = some r) : nx_Ct l Γ 1 yX8_isDigit cX8_isDigit 1 (some .boolean) [.int a1] M (some (.int (bz r)), M) :=
  nx_ct (out := fun r0 : Bool => (some (.int (bz r0)), M)) [some (.int a1)] pn_RX8 h (Nat.le_of_ble_eq_true rfl) rfl (fun X Z _ => jM_isDigit  u a1 X Z)
theorem dX8_number_0 : decode cX8_number 0 = .ok (.aload_n 0, 1) := by decide +kernel
theorem dX8_number_1 : decode cX8_number 1 = .ok (.invokevirtual 75, 3) := by decide +kernel
theorem dX8_number_4 : decode cX8_number 4 = .ok (.invokestatic 78, 3) := by decide +kernel
theorem dX8_number_7 : decode cX8_number 7 = .ok (.ifCond .ne 9, 3) := by decide +kernel
theorem dX8_number_10 : decode cX8_number 10 = .ok (.aload_n 0, 1) := by decide +kernel
theorem dX8_number_11 : decode cX8_number 11 = .ok (.invokevirtual 82, 3) := by decide +kernel
theorem dX8_number_14 : decode cX8_number 14 = .ok (.iload_n 1, 1) := by decide +kernel
theorem dX8_number_15 : decode cX8_number 15 = .ok (.ireturn, 1) := by decide +kernel
theorem dX8_number_16 : decode cX8_number 16 = .ok (.aload_n 0, 1) := by decide +kernel
theorem dX8_number_17 : decode cX8_number 17 = .ok (.invokevirtual 68, 3) := by decide +kernel
theorem dX8_number_20 : decode cX8_number 20 = .ok (.bipush 48, 2) := by decide +kernel
theorem dX8_number_22 : decode cX8_number 22 = .ok (.isub, 1) := by decide +kernel
theorem dX8_number_23 : decode cX8_number 23 = .ok (.istore_n 3, 1) := by decide +kernel
theorem dX8_number_24 : decode cX8_number 24 = .ok (.aload_n 0, 1) := by decide +kernel
theorem dX8_number_25 : decode cX8_number 25 = .ok (.dup, 1) := by decide +kernel
theorem dX8_number_26 : decode cX8_number 26 = .ok (.getfield 65, 3) := by decide +kernel
theorem dX8_number_29 : decode cX8_number 29 = .ok (.iconst 1, 1) := by decide +kernel
theorem dX8_number_30 : decode cX8_number 30 = .ok (.iadd, 1) := by decide +kernel
theorem dX8_number_31 : decode cX8_number 31 = .ok (.putfield 65, 3) := by decide +kernel
theorem dX8_number_34 : decode cX8_number 34 = .ok (.aload_n 0, 1) := by decide +kernel
theorem dX8_number_35 : decode cX8_number 35 = .ok (.invokevirtual 68, 3) := by decide +kernel
theorem dX8_number_38 : decode cX8_number 38 = .ok (.invokestatic 78, 3) := by decide +kernel
theorem dX8_number_41 : decode cX8_number 41 = .ok (.ifCond .eq 26, 3) := by decide +kernel
theorem dX8_number_44 : decode cX8_number 44 = .ok (.bipush 10, 2) := by decide +kernel
theorem dX8_number_46 : decode cX8_number 46 = .ok (.iload_n 3, 1) := by decide +kernel
theorem dX8_number_47 : decode cX8_number 47 = .ok (.imul, 1) := by decide +kernel
theorem dX8_number_48 : decode cX8_number 48 = .ok (.aload_n 0, 1) := by decide +kernel
theorem dX8_number_49 : decode cX8_number 49 = .ok (.invokevirtual 68, 3) := by decide +kernel
theorem dX8_number_52 : decode cX8_number 52 = .ok (.iadd, 1) := by decide +kernel
theorem dX8_number_53 : decode cX8_number 53 = .ok (.bipush 48, 2) := by decide +kernel
theorem dX8_number_55 : decode cX8_number 55 = .ok (.isub, 1) := by decide +kernel
theorem dX8_number_56 : decode cX8_number 56 = .ok (.istore_n 3, 1) := by decide +kernel
theorem dX8_number_57 : decode cX8_number 57 = .ok (.aload_n 0, 1) := by decide +kernel
theorem dX8_number_58 : decode cX8_number 58 = .ok (.dup, 1) := by decide +kernel
theorem dX8_number_59 : decode cX8_number 59 = .ok (.getfield 65, 3) := by decide +kernel
theorem dX8_number_62 : decode cX8_number 62 = .ok (.iconst 1, 1) := by decide +kernel
theorem dX8_number_63 : decode cX8_number 63 = .ok (.iadd, 1) := by decide +kernel
theorem dX8_number_64 : decode cX8_number 64 = .ok (.putfield 65, 3) := by decide +kernel
theorem dX8_number_67 : decode cX8_number 67 = .ok (.aload_n 0, 1) := by decide +kernel
theorem dX8_number_68 : decode cX8_number 68 = .ok (.invokevirtual 68, 3) := by decide +kernel
theorem dX8_number_71 : decode cX8_number 71 = .ok (.invokestatic 78, 3) := by decide +kernel
theorem dX8_number_74 : decode cX8_number 74 = .ok (.ifCond .eq 10, 3) := by decide +kernel
theorem dX8_number_77 : decode cX8_number 77 = .ok (.aload_n 0, 1) := by decide +kernel
theorem dX8_number_78 : decode cX8_number 78 = .ok (.invokevirtual 82, 3) := by decide +kernel
theorem dX8_number_81 : decode cX8_number 81 = .ok (.goto 26, 3) := by decide +kernel
theorem dX8_number_84 : decode cX8_number 84 = .ok (.iload_n 3, 1) := by decide +kernel
theorem dX8_number_85 : decode cX8_number 85 = .ok (.iload_n 1, 1) := by decide +kernel
theorem dX8_number_86 : decode cX8_number 86 = .ok (.iload_n 2, 1) := by decide +kernel
theorem dX8_number_87 : decode cX8_number 87 = .ok (.invokestatic 61, 3) := by decide +kernel
theorem dX8_number_90 : decode cX8_number 90 = .ok (.ifCond .ne 17, 3) := by decide +kernel
theorem dX8_number_93 : decode cX8_number 93 = .ok (.aload_n 0, 1) := by decide +kernel
theorem dX8_number_94 : decode cX8_number 94 = .ok (.dup, 1) := by decide +kernel
theorem dX8_number_95 : decode cX8_number 95 = .ok (.getfield 65, 3) := by decide +kernel
theorem dX8_number_98 : decode cX8_number 98 = .ok (.iconst 1, 1) := by decide +kernel
theorem dX8_number_99 : decode cX8_number 99 = .ok (.isub, 1) := by decide +kernel
theorem dX8_number_100 : decode cX8_number 100 = .ok (.putfield 65, 3) := by decide +kernel
theorem dX8_number_103 : decode cX8_number 103 = .ok (.aload_n 0, 1) := by decide +kernel
theorem dX8_number_104 : decode cX8_number 104 = .ok (.invokevirtual 82, 3) := by decide +kernel
theorem dX8_number_107 : decode cX8_number 107 = .ok (.iload_n 3, 1) := by decide +kernel
theorem dX8_number_108 : decode cX8_number 108 = .ok (.ireturn, 1) := by decide +kernel
def fM_number (u : Nat) (g : mS) (a1 : Int32) (a2 : Int32) : Option (Int32 × mS) :=
  (fM_ahead u g).bind fun p1 =>
  (fM_isDigit u p1.1).bind fun b2 =>
  if b2 = true then
    (fM_here u p1.2).bind fun x3 =>
    (some (mFs p1.2 3 ((p1.2.1 0 3) + (iz 1)))).bind fun g4 =>
    (fM_here u g4).bind fun x5 =>
    (fM_isDigit u x5).bind fun b6 =>
    (if b6 = true then
       (fM_here u g4).bind fun x7 =>
       (some (mFs g4 3 ((g4.1 0 3) + (iz 1)))).bind fun g8 =>
       some (((((iz 10) * (x3 - (iz 48))) + x7) - (iz 48)), g8)
     else
       some ((x3 - (iz 48)), g4) : Option (Int32 × mS)).bind fun s9 =>
    (fM_here u s9.2).bind fun x10 =>
    (fM_isDigit u x10).bind fun b11 =>
    (if b11 = true then
       (fM_bad u s9.2).bind fun g15 =>
       some g15
     else
       (fM_in u s9.1 a1 a2).bind fun b12 =>
       if b12 = true then
         some s9.2
       else
         (some (mFs s9.2 3 ((s9.2.1 0 3) - (iz 1)))).bind fun g13 =>
         (fM_bad u g13).bind fun g14 =>
         some g14 : Option (mS)).bind fun s16 =>
    some (s9.1, s16)
  else
    (fM_bad u p1.2).bind fun g17 =>
    some (a1, g17)
set_option maxRecDepth 4000 in
theorem jM_number {Γ : nx_G} {M0 : nx_M} {m : Nat} (u : Nat) (g : mS) (a1 : Int32) (a2 : Int32)   (X : nx_X) (Z : nx_Z) : nx_J Γ X (RX8, cX8_number, 4, (some .int), "number", 3) Z (fun r0 : Int32 × mS => .inr (some (.int r0.1), (mW Γ M0 m r0.2))) (.inl (0, [some (.ref m), some (.int a1), some (.int a2), none], [], (mW Γ M0 m g))) (fM_number u g a1 a2) := by
  unfold fM_number
  refine nx_aload_n rfl dX8_number_0 rfl ?_
  refine nx_callVr [] (fun r => .int r.1) (fun r => (mW Γ M0 m r.2)) cw_8_75 cv_X8_ahead (fun r e => cM_ahead X.2.1  e) mW_m rfl rfl (Nat.le_of_ble_eq_true rfl) (Nat.le_of_ble_eq_true rfl) dX8_number_1 rfl (fun p1 => ?_)
  refine nx_callSr [.int p1.1] (fun r => .int (bz r)) (fun _ => (mW Γ M0 m p1.2)) cw_8_78 wd_1285 (fun r e => cM_isDigit X.2.1  e) rfl rfl (Nat.le_of_ble_eq_true rfl) (Nat.le_of_ble_eq_true rfl) dX8_number_4 rfl (fun b2 => ?_)
  refine nx_ifz_ne (t := 16) dX8_number_7 (by decide) rfl ?_ ?_
  · refine nx_aload_n rfl dX8_number_16 rfl ?_
    refine nx_callVr [] (fun r => .int r) (fun _ => (mW Γ M0 m p1.2)) cw_8_68 cv_X8_here (fun r e => cM_here X.2.1  e) mW_m rfl rfl (Nat.le_of_ble_eq_true rfl) (Nat.le_of_ble_eq_true rfl) dX8_number_17 rfl (fun x3 => ?_)
    refine nx_bipush (by decide +kernel) dX8_number_20 rfl ?_
    refine nx_isub dX8_number_22 rfl ?_
    refine nx_istore_n [some (.ref m), some (.int a1), some (.int a2), some (.int (x3 - (iz 48)))] dX8_number_23 rfl (Nat.le_of_ble_eq_true rfl) rfl rfl ?_
    refine nx_aload_n rfl dX8_number_24 rfl ?_
    refine nx_dup rfl dX8_number_25 rfl ?_
    refine nx_getf fl_8_65 mW_m rfl dX8_number_26 rfl ?_
    refine nx_iconst dX8_number_29 rfl ?_
    refine nx_iadd dX8_number_30 rfl ?_
    refine m_put fl_8_65 ft_8_3 rfl rfl (Nat.le_of_ble_eq_true rfl) rfl dX8_number_31 rfl (fun g4 => ?_)
    refine nx_aload_n rfl dX8_number_34 rfl ?_
    refine nx_callVr [] (fun r => .int r) (fun _ => (mW Γ M0 m g4)) cw_8_68 cv_X8_here (fun r e => cM_here X.2.1  e) mW_m rfl rfl (Nat.le_of_ble_eq_true rfl) (Nat.le_of_ble_eq_true rfl) dX8_number_35 rfl (fun x5 => ?_)
    refine nx_callSr [.int x5] (fun r => .int (bz r)) (fun _ => (mW Γ M0 m g4)) cw_8_78 wd_1285 (fun r e => cM_isDigit X.2.1  e) rfl rfl (Nat.le_of_ble_eq_true rfl) (Nat.le_of_ble_eq_true rfl) dX8_number_38 rfl (fun b6 => ?_)
    refine nx_seq (C1 := fun s9 : Int32 × mS => .inl (67, [some (.ref m), some (.int a1), some (.int a2), some (.int s9.1)], [], (mW Γ M0 m s9.2))) ?_ (fun s9 => ?_)
    · refine nx_ifz_eq (t := 67) dX8_number_41 (by decide) rfl ?_ ?_
      · exact nx_leaf rfl
      · refine nx_bipush (by decide +kernel) dX8_number_44 rfl ?_
        refine nx_iload_n rfl dX8_number_46 rfl ?_
        refine nx_imul dX8_number_47 rfl ?_
        refine nx_aload_n rfl dX8_number_48 rfl ?_
        refine nx_callVr [] (fun r => .int r) (fun _ => (mW Γ M0 m g4)) cw_8_68 cv_X8_here (fun r e => cM_here X.2.1  e) mW_m rfl rfl (Nat.le_of_ble_eq_true rfl) (Nat.le_of_ble_eq_true rfl) dX8_number_49 rfl (fun x7 => ?_)
        refine nx_iadd dX8_number_52 rfl ?_
        refine nx_bipush (by decide +kernel) dX8_number_53 rfl ?_
        refine nx_isub dX8_number_55 rfl ?_
        refine nx_istore_n [some (.ref m), some (.int a1), some (.int a2), some (.int ((((iz 10) * (x3 - (iz 48))) + x7) - (iz 48)))] dX8_number_56 rfl (Nat.le_of_ble_eq_true rfl) rfl rfl ?_
        refine nx_aload_n rfl dX8_number_57 rfl ?_
        refine nx_dup rfl dX8_number_58 rfl ?_
        refine nx_getf fl_8_65 mW_m rfl dX8_number_59 rfl ?_
        refine nx_iconst dX8_number_62 rfl ?_
        refine nx_iadd dX8_number_63 rfl ?_
        refine m_put fl_8_65 ft_8_3 rfl rfl (Nat.le_of_ble_eq_true rfl) rfl dX8_number_64 rfl (fun g8 => ?_)
        exact nx_leaf rfl
    refine nx_aload_n rfl dX8_number_67 rfl ?_
    refine nx_callVr [] (fun r => .int r) (fun _ => (mW Γ M0 m s9.2)) cw_8_68 cv_X8_here (fun r e => cM_here X.2.1  e) mW_m rfl rfl (Nat.le_of_ble_eq_true rfl) (Nat.le_of_ble_eq_true rfl) dX8_number_68 rfl (fun x10 => ?_)
    refine nx_callSr [.int x10] (fun r => .int (bz r)) (fun _ => (mW Γ M0 m s9.2)) cw_8_78 wd_1285 (fun r e => cM_isDigit X.2.1  e) rfl rfl (Nat.le_of_ble_eq_true rfl) (Nat.le_of_ble_eq_true rfl) dX8_number_71 rfl (fun b11 => ?_)
    refine nx_seq (C1 := fun s16 : mS => .inl (107, [some (.ref m), some (.int a1), some (.int a2), some (.int s9.1)], [], (mW Γ M0 m s16))) ?_ (fun s16 => ?_)
    · refine nx_ifz_eq (t := 84) dX8_number_74 (by decide) rfl ?_ ?_
      · refine nx_iload_n rfl dX8_number_84 rfl ?_
        refine nx_iload_n rfl dX8_number_85 rfl ?_
        refine nx_iload_n rfl dX8_number_86 rfl ?_
        refine nx_callSr [.int s9.1, .int a1, .int a2] (fun r => .int (bz r)) (fun _ => (mW Γ M0 m s9.2)) cw_8_61 wd_1243 (fun r e => cM_in X.2.1  e) rfl rfl (Nat.le_of_ble_eq_true rfl) (Nat.le_of_ble_eq_true rfl) dX8_number_87 rfl (fun b12 => ?_)
        refine nx_ifz_ne (t := 107) dX8_number_90 (by decide) rfl ?_ ?_
        · obtain ⟨_, _⟩ := s9
          exact nx_leaf rfl
        · refine nx_aload_n rfl dX8_number_93 rfl ?_
          refine nx_dup rfl dX8_number_94 rfl ?_
          refine nx_getf fl_8_65 mW_m rfl dX8_number_95 rfl ?_
          refine nx_iconst dX8_number_98 rfl ?_
          refine nx_isub dX8_number_99 rfl ?_
          refine m_put fl_8_65 ft_8_3 rfl rfl (Nat.le_of_ble_eq_true rfl) rfl dX8_number_100 rfl (fun g13 => ?_)
          refine nx_aload_n rfl dX8_number_103 rfl ?_
          refine nx_callVv [] (fun r => (mW Γ M0 m r)) cw_8_82 cv_X8_bad (fun r e => cM_bad X.2.1  e) mW_m rfl rfl (Nat.le_of_ble_eq_true rfl) (Nat.le_of_ble_eq_true rfl) dX8_number_104 rfl (fun g14 => ?_)
          obtain ⟨_, _⟩ := s9
          exact nx_leaf rfl
      · refine nx_aload_n rfl dX8_number_77 rfl ?_
        refine nx_callVv [] (fun r => (mW Γ M0 m r)) cw_8_82 cv_X8_bad (fun r e => cM_bad X.2.1  e) mW_m rfl rfl (Nat.le_of_ble_eq_true rfl) (Nat.le_of_ble_eq_true rfl) dX8_number_78 rfl (fun g15 => ?_)
        refine nx_goto (q := 107) dX8_number_81 (by decide) ?_
        obtain ⟨_, _⟩ := s9
        exact nx_leaf rfl
    refine nx_iload_n rfl dX8_number_107 rfl ?_
    exact nx_iret dX8_number_108 rfl rfl
  · refine nx_aload_n rfl dX8_number_10 rfl ?_
    refine nx_callVv [] (fun r => (mW Γ M0 m r)) cw_8_82 cv_X8_bad (fun r e => cM_bad X.2.1  e) mW_m rfl rfl (Nat.le_of_ble_eq_true rfl) (Nat.le_of_ble_eq_true rfl) dX8_number_11 rfl (fun g17 => ?_)
    refine nx_iload_n rfl dX8_number_14 rfl ?_
    exact nx_iret dX8_number_15 rfl rfl
theorem cM_number (l : Launch) {Γ : nx_G} {M0 : nx_M} {m : Nat} {u : Nat} {g : mS} {a1 : Int32} {a2 : Int32} {r : Int32 × mS}  (h : fM_number u g a1 a2 = some r) : nx_Ct l Γ 3 yX8_number cX8_number 4 (some .int) [.ref m, .int a1, .int a2] (mW Γ M0 m g) (some (.int r.1), (mW Γ M0 m r.2)) :=
  nx_ct (out := fun r0 : Int32 × mS => (some (.int r0.1), (mW Γ M0 m r0.2))) [some (.ref m), some (.int a1), some (.int a2), none] pn_RX8 h (Nat.le_of_ble_eq_true rfl) rfl (fun X Z _ => jM_number  u g a1 a2 X Z)
theorem dX8_itemOf_0 : decode cX8_itemOf 0 = .ok (.iload_n 0, 1) := by decide +kernel
theorem dX8_itemOf_1 : decode cX8_itemOf 1 = .ok (.bipush 107, 2) := by decide +kernel
theorem dX8_itemOf_3 : decode cX8_itemOf 3 = .ok (.if_icmp .ne 15, 3) := by decide +kernel
theorem dX8_itemOf_6 : decode cX8_itemOf 6 = .ok (.iload_n 1, 1) := by decide +kernel
theorem dX8_itemOf_7 : decode cX8_itemOf 7 = .ok (.bipush 118, 2) := by decide +kernel
theorem dX8_itemOf_9 : decode cX8_itemOf 9 = .ok (.if_icmp .ne 7, 3) := by decide +kernel
theorem dX8_itemOf_12 : decode cX8_itemOf 12 = .ok (.iconst 0, 1) := by decide +kernel
theorem dX8_itemOf_13 : decode cX8_itemOf 13 = .ok (.goto 4, 3) := by decide +kernel
theorem dX8_itemOf_16 : decode cX8_itemOf 16 = .ok (.iconst (-1), 1) := by decide +kernel
theorem dX8_itemOf_17 : decode cX8_itemOf 17 = .ok (.ireturn, 1) := by decide +kernel
theorem dX8_itemOf_18 : decode cX8_itemOf 18 = .ok (.iload_n 1, 1) := by decide +kernel
theorem dX8_itemOf_19 : decode cX8_itemOf 19 = .ok (.bipush 109, 2) := by decide +kernel
theorem dX8_itemOf_21 : decode cX8_itemOf 21 = .ok (.if_icmp .ne 7, 3) := by decide +kernel
theorem dX8_itemOf_24 : decode cX8_itemOf 24 = .ok (.iconst 0, 1) := by decide +kernel
theorem dX8_itemOf_25 : decode cX8_itemOf 25 = .ok (.goto 24, 3) := by decide +kernel
theorem dX8_itemOf_28 : decode cX8_itemOf 28 = .ok (.iload_n 1, 1) := by decide +kernel
theorem dX8_itemOf_29 : decode cX8_itemOf 29 = .ok (.bipush 112, 2) := by decide +kernel
theorem dX8_itemOf_31 : decode cX8_itemOf 31 = .ok (.if_icmp .ne 7, 3) := by decide +kernel
theorem dX8_itemOf_34 : decode cX8_itemOf 34 = .ok (.iconst 1, 1) := by decide +kernel
theorem dX8_itemOf_35 : decode cX8_itemOf 35 = .ok (.goto 14, 3) := by decide +kernel
theorem dX8_itemOf_38 : decode cX8_itemOf 38 = .ok (.iload_n 1, 1) := by decide +kernel
theorem dX8_itemOf_39 : decode cX8_itemOf 39 = .ok (.bipush 116, 2) := by decide +kernel
theorem dX8_itemOf_41 : decode cX8_itemOf 41 = .ok (.if_icmp .ne 7, 3) := by decide +kernel
theorem dX8_itemOf_44 : decode cX8_itemOf 44 = .ok (.iconst 2, 1) := by decide +kernel
theorem dX8_itemOf_45 : decode cX8_itemOf 45 = .ok (.goto 4, 3) := by decide +kernel
theorem dX8_itemOf_48 : decode cX8_itemOf 48 = .ok (.iconst (-1), 1) := by decide +kernel
theorem dX8_itemOf_49 : decode cX8_itemOf 49 = .ok (.ireturn, 1) := by decide +kernel
def fM_itemOf (u : Nat) (a1 : Int32) (a2 : Int32) : Option (Int32) :=
  if a1 = (iz 107) then
    if a2 = (iz 118) then
      some (iz 0)
    else
      some (iz (-1))
  else
    if a2 = (iz 109) then
      some (iz 0)
    else
      if a2 = (iz 112) then
        some (iz 1)
      else
        if a2 = (iz 116) then
          some (iz 2)
        else
          some (iz (-1))
set_option maxRecDepth 4000 in
theorem jM_itemOf {Γ : nx_G} {M : nx_M} (u : Nat) (a1 : Int32) (a2 : Int32)   (X : nx_X) (Z : nx_Z) : nx_J Γ X (RX8, cX8_itemOf, 2, (some .int), "itemOf", 1) Z (fun r0 : Int32 => .inr (some (.int r0), M)) (.inl (0, [some (.int a1), some (.int a2)], [], M)) (fM_itemOf u a1 a2) := by
  unfold fM_itemOf
  refine nx_iload_n rfl dX8_itemOf_0 rfl ?_
  refine nx_bipush (by decide +kernel) dX8_itemOf_1 rfl ?_
  refine nx_icmp_ne (t := 18) dX8_itemOf_3 (by decide) rfl ?_ ?_
  · refine nx_iload_n rfl dX8_itemOf_18 rfl ?_
    refine nx_bipush (by decide +kernel) dX8_itemOf_19 rfl ?_
    refine nx_icmp_ne (t := 28) dX8_itemOf_21 (by decide) rfl ?_ ?_
    · refine nx_iload_n rfl dX8_itemOf_28 rfl ?_
      refine nx_bipush (by decide +kernel) dX8_itemOf_29 rfl ?_
      refine nx_icmp_ne (t := 38) dX8_itemOf_31 (by decide) rfl ?_ ?_
      · refine nx_iload_n rfl dX8_itemOf_38 rfl ?_
        refine nx_bipush (by decide +kernel) dX8_itemOf_39 rfl ?_
        refine nx_icmp_ne (t := 48) dX8_itemOf_41 (by decide) rfl ?_ ?_
        · refine nx_iconst dX8_itemOf_48 rfl ?_
          exact nx_iret dX8_itemOf_49 rfl rfl
        · refine nx_iconst dX8_itemOf_44 rfl ?_
          refine nx_goto (q := 49) dX8_itemOf_45 (by decide) ?_
          exact nx_iret dX8_itemOf_49 rfl rfl
      · refine nx_iconst dX8_itemOf_34 rfl ?_
        refine nx_goto (q := 49) dX8_itemOf_35 (by decide) ?_
        exact nx_iret dX8_itemOf_49 rfl rfl
    · refine nx_iconst dX8_itemOf_24 rfl ?_
      refine nx_goto (q := 49) dX8_itemOf_25 (by decide) ?_
      exact nx_iret dX8_itemOf_49 rfl rfl
  · refine nx_iload_n rfl dX8_itemOf_6 rfl ?_
    refine nx_bipush (by decide +kernel) dX8_itemOf_7 rfl ?_
    refine nx_icmp_ne (t := 16) dX8_itemOf_9 (by decide) rfl ?_ ?_
    · refine nx_iconst dX8_itemOf_16 rfl ?_
      exact nx_iret dX8_itemOf_17 rfl rfl
    · refine nx_iconst dX8_itemOf_12 rfl ?_
      refine nx_goto (q := 17) dX8_itemOf_13 (by decide) ?_
      exact nx_iret dX8_itemOf_17 rfl rfl
theorem cM_itemOf (l : Launch) {Γ : nx_G} {M : nx_M} {u : Nat} {a1 : Int32} {a2 : Int32} {r : Int32}  (h : fM_itemOf u a1 a2 = some r) : nx_Ct l Γ 1 yX8_itemOf cX8_itemOf 2 (some .int) [.int a1, .int a2] M (some (.int r), M) :=
  nx_ct (out := fun r0 : Int32 => (some (.int r0), M)) [some (.int a1), some (.int a2)] pn_RX8 h (Nat.le_of_ble_eq_true rfl) rfl (fun X Z _ => jM_itemOf  u a1 a2 X Z)
theorem dX8_lowest_0 : decode cX8_lowest 0 = .ok (.iload_n 0, 1) := by decide +kernel
theorem dX8_lowest_1 : decode cX8_lowest 1 = .ok (.bipush 107, 2) := by decide +kernel
theorem dX8_lowest_3 : decode cX8_lowest 3 = .ok (.if_icmp .eq 8, 3) := by decide +kernel
theorem dX8_lowest_6 : decode cX8_lowest 6 = .ok (.iload_n 1, 1) := by decide +kernel
theorem dX8_lowest_7 : decode cX8_lowest 7 = .ok (.iconst 1, 1) := by decide +kernel
theorem dX8_lowest_8 : decode cX8_lowest 8 = .ok (.if_icmp .ne 7, 3) := by decide +kernel
theorem dX8_lowest_11 : decode cX8_lowest 11 = .ok (.iconst 0, 1) := by decide +kernel
theorem dX8_lowest_12 : decode cX8_lowest 12 = .ok (.goto 4, 3) := by decide +kernel
theorem dX8_lowest_15 : decode cX8_lowest 15 = .ok (.iconst 2, 1) := by decide +kernel
theorem dX8_lowest_16 : decode cX8_lowest 16 = .ok (.ireturn, 1) := by decide +kernel
def fM_lowest (u : Nat) (a1 : Int32) (a2 : Int32) : Option (Int32) :=
  if a1 = (iz 107) then
    some (iz 0)
  else
    if a2 = (iz 1) then
      some (iz 0)
    else
      some (iz 2)
set_option maxRecDepth 4000 in
theorem jM_lowest {Γ : nx_G} {M : nx_M} (u : Nat) (a1 : Int32) (a2 : Int32)   (X : nx_X) (Z : nx_Z) : nx_J Γ X (RX8, cX8_lowest, 2, (some .int), "lowest", 1) Z (fun r0 : Int32 => .inr (some (.int r0), M)) (.inl (0, [some (.int a1), some (.int a2)], [], M)) (fM_lowest u a1 a2) := by
  unfold fM_lowest
  refine nx_iload_n rfl dX8_lowest_0 rfl ?_
  refine nx_bipush (by decide +kernel) dX8_lowest_1 rfl ?_
  refine nx_icmp_eq (t := 11) dX8_lowest_3 (by decide) rfl ?_ ?_
  · refine nx_iconst dX8_lowest_11 rfl ?_
    refine nx_goto (q := 16) dX8_lowest_12 (by decide) ?_
    exact nx_iret dX8_lowest_16 rfl rfl
  · refine nx_iload_n rfl dX8_lowest_6 rfl ?_
    refine nx_iconst dX8_lowest_7 rfl ?_
    refine nx_icmp_ne (t := 15) dX8_lowest_8 (by decide) rfl ?_ ?_
    · refine nx_iconst dX8_lowest_15 rfl ?_
      exact nx_iret dX8_lowest_16 rfl rfl
    · refine nx_iconst dX8_lowest_11 rfl ?_
      refine nx_goto (q := 16) dX8_lowest_12 (by decide) ?_
      exact nx_iret dX8_lowest_16 rfl rfl
theorem cM_lowest (l : Launch) {Γ : nx_G} {M : nx_M} {u : Nat} {a1 : Int32} {a2 : Int32} {r : Int32}  (h : fM_lowest u a1 a2 = some r) : nx_Ct l Γ 1 yX8_lowest cX8_lowest 2 (some .int) [.int a1, .int a2] M (some (.int r), M) :=
  nx_ct (out := fun r0 : Int32 => (some (.int r0), M)) [some (.int a1), some (.int a2)] pn_RX8 h (Nat.le_of_ble_eq_true rfl) rfl (fun X Z _ => jM_lowest  u a1 a2 X Z)
theorem dX8_highest_0 : decode cX8_highest 0 = .ok (.iload_n 0, 1) := by decide +kernel
theorem dX8_highest_1 : decode cX8_highest 1 = .ok (.bipush 107, 2) := by decide +kernel
theorem dX8_highest_3 : decode cX8_highest 3 = .ok (.if_icmp .ne 8, 3) := by decide +kernel
theorem dX8_highest_6 : decode cX8_highest 6 = .ok (.bipush 99, 2) := by decide +kernel
theorem dX8_highest_8 : decode cX8_highest 8 = .ok (.goto 23, 3) := by decide +kernel
theorem dX8_highest_11 : decode cX8_highest 11 = .ok (.iload_n 1, 1) := by decide +kernel
theorem dX8_highest_12 : decode cX8_highest 12 = .ok (.ifCond .ne 8, 3) := by decide +kernel
theorem dX8_highest_15 : decode cX8_highest 15 = .ok (.bipush 9, 2) := by decide +kernel
theorem dX8_highest_17 : decode cX8_highest 17 = .ok (.goto 14, 3) := by decide +kernel
theorem dX8_highest_20 : decode cX8_highest 20 = .ok (.iload_n 1, 1) := by decide +kernel
theorem dX8_highest_21 : decode cX8_highest 21 = .ok (.iconst 1, 1) := by decide +kernel
theorem dX8_highest_22 : decode cX8_highest 22 = .ok (.if_icmp .ne 7, 3) := by decide +kernel
theorem dX8_highest_25 : decode cX8_highest 25 = .ok (.iconst 1, 1) := by decide +kernel
theorem dX8_highest_26 : decode cX8_highest 26 = .ok (.goto 5, 3) := by decide +kernel
theorem dX8_highest_29 : decode cX8_highest 29 = .ok (.bipush 20, 2) := by decide +kernel
theorem dX8_highest_31 : decode cX8_highest 31 = .ok (.ireturn, 1) := by decide +kernel
def fM_highest (u : Nat) (a1 : Int32) (a2 : Int32) : Option (Int32) :=
  if a1 = (iz 107) then
    some (iz 99)
  else
    if a2 = iz 0 then
      some (iz 9)
    else
      if a2 = (iz 1) then
        some (iz 1)
      else
        some (iz 20)
set_option maxRecDepth 4000 in
theorem jM_highest {Γ : nx_G} {M : nx_M} (u : Nat) (a1 : Int32) (a2 : Int32)   (X : nx_X) (Z : nx_Z) : nx_J Γ X (RX8, cX8_highest, 2, (some .int), "highest", 1) Z (fun r0 : Int32 => .inr (some (.int r0), M)) (.inl (0, [some (.int a1), some (.int a2)], [], M)) (fM_highest u a1 a2) := by
  unfold fM_highest
  refine nx_iload_n rfl dX8_highest_0 rfl ?_
  refine nx_bipush (by decide +kernel) dX8_highest_1 rfl ?_
  refine nx_icmp_ne (t := 11) dX8_highest_3 (by decide) rfl ?_ ?_
  · refine nx_iload_n rfl dX8_highest_11 rfl ?_
    refine nx_if_ne (t := 20) dX8_highest_12 (by decide) rfl ?_ ?_
    · refine nx_iload_n rfl dX8_highest_20 rfl ?_
      refine nx_iconst dX8_highest_21 rfl ?_
      refine nx_icmp_ne (t := 29) dX8_highest_22 (by decide) rfl ?_ ?_
      · refine nx_bipush (by decide +kernel) dX8_highest_29 rfl ?_
        exact nx_iret dX8_highest_31 rfl rfl
      · refine nx_iconst dX8_highest_25 rfl ?_
        refine nx_goto (q := 31) dX8_highest_26 (by decide) ?_
        exact nx_iret dX8_highest_31 rfl rfl
    · refine nx_bipush (by decide +kernel) dX8_highest_15 rfl ?_
      refine nx_goto (q := 31) dX8_highest_17 (by decide) ?_
      exact nx_iret dX8_highest_31 rfl rfl
  · refine nx_bipush (by decide +kernel) dX8_highest_6 rfl ?_
    refine nx_goto (q := 31) dX8_highest_8 (by decide) ?_
    exact nx_iret dX8_highest_31 rfl rfl
theorem cM_highest (l : Launch) {Γ : nx_G} {M : nx_M} {u : Nat} {a1 : Int32} {a2 : Int32} {r : Int32}  (h : fM_highest u a1 a2 = some r) : nx_Ct l Γ 1 yX8_highest cX8_highest 2 (some .int) [.int a1, .int a2] M (some (.int r), M) :=
  nx_ct (out := fun r0 : Int32 => (some (.int r0), M)) [some (.int a1), some (.int a2)] pn_RX8 h (Nat.le_of_ble_eq_true rfl) rfl (fun X Z _ => jM_highest  u a1 a2 X Z)
theorem dX8_usual_0 : decode cX8_usual 0 = .ok (.iload_n 0, 1) := by decide +kernel
theorem dX8_usual_1 : decode cX8_usual 1 = .ok (.bipush 107, 2) := by decide +kernel
theorem dX8_usual_3 : decode cX8_usual 3 = .ok (.if_icmp .eq 8, 3) := by decide +kernel
theorem dX8_usual_6 : decode cX8_usual 6 = .ok (.iload_n 1, 1) := by decide +kernel
theorem dX8_usual_7 : decode cX8_usual 7 = .ok (.iconst 1, 1) := by decide +kernel
theorem dX8_usual_8 : decode cX8_usual 8 = .ok (.if_icmp .ne 7, 3) := by decide +kernel
theorem dX8_usual_11 : decode cX8_usual 11 = .ok (.iconst 0, 1) := by decide +kernel
theorem dX8_usual_12 : decode cX8_usual 12 = .ok (.goto 14, 3) := by decide +kernel
theorem dX8_usual_15 : decode cX8_usual 15 = .ok (.iload_n 1, 1) := by decide +kernel
theorem dX8_usual_16 : decode cX8_usual 16 = .ok (.ifCond .ne 8, 3) := by decide +kernel
theorem dX8_usual_19 : decode cX8_usual 19 = .ok (.bipush 6, 2) := by decide +kernel
theorem dX8_usual_21 : decode cX8_usual 21 = .ok (.goto 5, 3) := by decide +kernel
theorem dX8_usual_24 : decode cX8_usual 24 = .ok (.bipush 10, 2) := by decide +kernel
theorem dX8_usual_26 : decode cX8_usual 26 = .ok (.ireturn, 1) := by decide +kernel
def fM_usual (u : Nat) (a1 : Int32) (a2 : Int32) : Option (Int32) :=
  if a1 = (iz 107) then
    some (iz 0)
  else
    if a2 = (iz 1) then
      some (iz 0)
    else
      if a2 = iz 0 then
        some (iz 6)
      else
        some (iz 10)
set_option maxRecDepth 4000 in
theorem jM_usual {Γ : nx_G} {M : nx_M} (u : Nat) (a1 : Int32) (a2 : Int32)   (X : nx_X) (Z : nx_Z) : nx_J Γ X (RX8, cX8_usual, 2, (some .int), "usual", 1) Z (fun r0 : Int32 => .inr (some (.int r0), M)) (.inl (0, [some (.int a1), some (.int a2)], [], M)) (fM_usual u a1 a2) := by
  unfold fM_usual
  refine nx_iload_n rfl dX8_usual_0 rfl ?_
  refine nx_bipush (by decide +kernel) dX8_usual_1 rfl ?_
  refine nx_icmp_eq (t := 11) dX8_usual_3 (by decide) rfl ?_ ?_
  · refine nx_iconst dX8_usual_11 rfl ?_
    refine nx_goto (q := 26) dX8_usual_12 (by decide) ?_
    exact nx_iret dX8_usual_26 rfl rfl
  · refine nx_iload_n rfl dX8_usual_6 rfl ?_
    refine nx_iconst dX8_usual_7 rfl ?_
    refine nx_icmp_ne (t := 15) dX8_usual_8 (by decide) rfl ?_ ?_
    · refine nx_iload_n rfl dX8_usual_15 rfl ?_
      refine nx_if_ne (t := 24) dX8_usual_16 (by decide) rfl ?_ ?_
      · refine nx_bipush (by decide +kernel) dX8_usual_24 rfl ?_
        exact nx_iret dX8_usual_26 rfl rfl
      · refine nx_bipush (by decide +kernel) dX8_usual_19 rfl ?_
        refine nx_goto (q := 26) dX8_usual_21 (by decide) ?_
        exact nx_iret dX8_usual_26 rfl rfl
    · refine nx_iconst dX8_usual_11 rfl ?_
      refine nx_goto (q := 26) dX8_usual_12 (by decide) ?_
      exact nx_iret dX8_usual_26 rfl rfl
theorem cM_usual (l : Launch) {Γ : nx_G} {M : nx_M} {u : Nat} {a1 : Int32} {a2 : Int32} {r : Int32}  (h : fM_usual u a1 a2 = some r) : nx_Ct l Γ 1 yX8_usual cX8_usual 2 (some .int) [.int a1, .int a2] M (some (.int r), M) :=
  nx_ct (out := fun r0 : Int32 => (some (.int r0), M)) [some (.int a1), some (.int a2)] pn_RX8 h (Nat.le_of_ble_eq_true rfl) rfl (fun X Z _ => jM_usual  u a1 a2 X Z)
theorem dX8_items_0 : decode cX8_items 0 = .ok (.iconst 0, 1) := by decide +kernel
theorem dX8_items_1 : decode cX8_items 1 = .ok (.istore 5, 2) := by decide +kernel
theorem dX8_items_3 : decode cX8_items 3 = .ok (.iload 5, 2) := by decide +kernel
theorem dX8_items_5 : decode cX8_items 5 = .ok (.iload 4, 2) := by decide +kernel
theorem dX8_items_7 : decode cX8_items 7 = .ok (.if_icmp .ge 21, 3) := by decide +kernel
theorem dX8_items_10 : decode cX8_items 10 = .ok (.aload_n 2, 1) := by decide +kernel
theorem dX8_items_11 : decode cX8_items 11 = .ok (.iload_n 3, 1) := by decide +kernel
theorem dX8_items_12 : decode cX8_items 12 = .ok (.iload 5, 2) := by decide +kernel
theorem dX8_items_14 : decode cX8_items 14 = .ok (.iadd, 1) := by decide +kernel
theorem dX8_items_15 : decode cX8_items 15 = .ok (.iload_n 1, 1) := by decide +kernel
theorem dX8_items_16 : decode cX8_items 16 = .ok (.iload 5, 2) := by decide +kernel
theorem dX8_items_18 : decode cX8_items 18 = .ok (.invokestatic 85, 3) := by decide +kernel
theorem dX8_items_21 : decode cX8_items 21 = .ok (.iastore, 1) := by decide +kernel
theorem dX8_items_22 : decode cX8_items 22 = .ok (.iinc 5 1, 3) := by decide +kernel
theorem dX8_items_25 : decode cX8_items 25 = .ok (.goto (-22), 3) := by decide +kernel
theorem dX8_items_28 : decode cX8_items 28 = .ok (.iconst 0, 1) := by decide +kernel
theorem dX8_items_29 : decode cX8_items 29 = .ok (.istore 5, 2) := by decide +kernel
theorem dX8_items_31 : decode cX8_items 31 = .ok (.iload_n 1, 1) := by decide +kernel
theorem dX8_items_32 : decode cX8_items 32 = .ok (.aload_n 0, 1) := by decide +kernel
theorem dX8_items_33 : decode cX8_items 33 = .ok (.invokevirtual 75, 3) := by decide +kernel
theorem dX8_items_36 : decode cX8_items 36 = .ok (.invokestatic 89, 3) := by decide +kernel
theorem dX8_items_39 : decode cX8_items 39 = .ok (.istore 6, 2) := by decide +kernel
theorem dX8_items_41 : decode cX8_items 41 = .ok (.aload_n 0, 1) := by decide +kernel
theorem dX8_items_42 : decode cX8_items 42 = .ok (.getfield 72, 3) := by decide +kernel
theorem dX8_items_45 : decode cX8_items 45 = .ok (.iconst (-1), 1) := by decide +kernel
theorem dX8_items_46 : decode cX8_items 46 = .ok (.if_icmp .ne 85, 3) := by decide +kernel
theorem dX8_items_49 : decode cX8_items 49 = .ok (.iload 6, 2) := by decide +kernel
theorem dX8_items_51 : decode cX8_items 51 = .ok (.iconst (-1), 1) := by decide +kernel
theorem dX8_items_52 : decode cX8_items 52 = .ok (.if_icmp .eq 79, 3) := by decide +kernel
theorem dX8_items_55 : decode cX8_items 55 = .ok (.iload 5, 2) := by decide +kernel
theorem dX8_items_57 : decode cX8_items 57 = .ok (.iload 6, 2) := by decide +kernel
theorem dX8_items_59 : decode cX8_items 59 = .ok (.invokestatic 92, 3) := by decide +kernel
theorem dX8_items_62 : decode cX8_items 62 = .ok (.ifCond .ne 69, 3) := by decide +kernel
theorem dX8_items_65 : decode cX8_items 65 = .ok (.iload 5, 2) := by decide +kernel
theorem dX8_items_67 : decode cX8_items 67 = .ok (.iconst 1, 1) := by decide +kernel
theorem dX8_items_68 : decode cX8_items 68 = .ok (.iload 6, 2) := by decide +kernel
theorem dX8_items_70 : decode cX8_items 70 = .ok (.ishl, 1) := by decide +kernel
theorem dX8_items_71 : decode cX8_items 71 = .ok (.ior, 1) := by decide +kernel
theorem dX8_items_72 : decode cX8_items 72 = .ok (.istore 5, 2) := by decide +kernel
theorem dX8_items_74 : decode cX8_items 74 = .ok (.aload_n 0, 1) := by decide +kernel
theorem dX8_items_75 : decode cX8_items 75 = .ok (.dup, 1) := by decide +kernel
theorem dX8_items_76 : decode cX8_items 76 = .ok (.getfield 65, 3) := by decide +kernel
theorem dX8_items_79 : decode cX8_items 79 = .ok (.iconst 1, 1) := by decide +kernel
theorem dX8_items_80 : decode cX8_items 80 = .ok (.iadd, 1) := by decide +kernel
theorem dX8_items_81 : decode cX8_items 81 = .ok (.putfield 65, 3) := by decide +kernel
theorem dX8_items_84 : decode cX8_items 84 = .ok (.aload_n 2, 1) := by decide +kernel
theorem dX8_items_85 : decode cX8_items 85 = .ok (.iload_n 3, 1) := by decide +kernel
theorem dX8_items_86 : decode cX8_items 86 = .ok (.iload 6, 2) := by decide +kernel
theorem dX8_items_88 : decode cX8_items 88 = .ok (.iadd, 1) := by decide +kernel
theorem dX8_items_89 : decode cX8_items 89 = .ok (.aload_n 0, 1) := by decide +kernel
theorem dX8_items_90 : decode cX8_items 90 = .ok (.iload_n 1, 1) := by decide +kernel
theorem dX8_items_91 : decode cX8_items 91 = .ok (.iload 6, 2) := by decide +kernel
theorem dX8_items_93 : decode cX8_items 93 = .ok (.invokestatic 96, 3) := by decide +kernel
theorem dX8_items_96 : decode cX8_items 96 = .ok (.iload_n 1, 1) := by decide +kernel
theorem dX8_items_97 : decode cX8_items 97 = .ok (.iload 6, 2) := by decide +kernel
theorem dX8_items_99 : decode cX8_items 99 = .ok (.invokestatic 99, 3) := by decide +kernel
theorem dX8_items_102 : decode cX8_items 102 = .ok (.invokevirtual 102, 3) := by decide +kernel
theorem dX8_items_105 : decode cX8_items 105 = .ok (.iastore, 1) := by decide +kernel
theorem dX8_items_106 : decode cX8_items 106 = .ok (.aload_n 0, 1) := by decide +kernel
theorem dX8_items_107 : decode cX8_items 107 = .ok (.getfield 72, 3) := by decide +kernel
theorem dX8_items_110 : decode cX8_items 110 = .ok (.iconst (-1), 1) := by decide +kernel
theorem dX8_items_111 : decode cX8_items 111 = .ok (.if_icmp .ne 14, 3) := by decide +kernel
theorem dX8_items_114 : decode cX8_items 114 = .ok (.iload_n 1, 1) := by decide +kernel
theorem dX8_items_115 : decode cX8_items 115 = .ok (.aload_n 0, 1) := by decide +kernel
theorem dX8_items_116 : decode cX8_items 116 = .ok (.invokevirtual 75, 3) := by decide +kernel
theorem dX8_items_119 : decode cX8_items 119 = .ok (.invokestatic 89, 3) := by decide +kernel
theorem dX8_items_122 : decode cX8_items 122 = .ok (.goto 4, 3) := by decide +kernel
theorem dX8_items_125 : decode cX8_items 125 = .ok (.iconst (-1), 1) := by decide +kernel
theorem dX8_items_126 : decode cX8_items 126 = .ok (.istore 6, 2) := by decide +kernel
theorem dX8_items_128 : decode cX8_items 128 = .ok (.goto (-87), 3) := by decide +kernel
theorem dX8_items_131 : decode cX8_items 131 = .ok (.return_, 1) := by decide +kernel
def fM_items_3 (u : Nat) (a1 : Int32) (a2 : Nat) (a3 : Int32) (a4 : Int32) (s1 : Int32 × mS) : Option ((Int32 × mS) ⊕ (mS)) :=
  if a4 ≤ s1.1 then
    some (.inr s1.2)
  else
    (fM_usual u a1 s1.1).bind fun x2 =>
    (mWr s1.2 a2 (a3 + s1.1) x2).bind fun g3 =>
    some (.inl ((s1.1 + iz 1), g3))
def fM_items_41 (u : Nat) (a1 : Int32) (a2 : Nat) (a3 : Int32) (s7 : Int32 × Int32 × mS) : Option ((Int32 × Int32 × mS) ⊕ (mS)) :=
  if (s7.2.2.1 0 4) = (iz (-1)) then
    if s7.2.1 = (iz (-1)) then
      some (.inr s7.2.2)
    else
      (fM_has u s7.1 s7.2.1).bind fun b8 =>
      if b8 = true then
        some (.inr s7.2.2)
      else
        (some (mFs s7.2.2 3 ((s7.2.2.1 0 3) + (iz 1)))).bind fun g9 =>
        (fM_lowest u a1 s7.2.1).bind fun x10 =>
        (fM_highest u a1 s7.2.1).bind fun x11 =>
        (fM_number u g9 x10 x11).bind fun p12 =>
        (mWr p12.2 a2 (a3 + s7.2.1) p12.1).bind fun g13 =>
        (if (g13.1 0 4) = (iz (-1)) then
           (fM_ahead u g13).bind fun p14 =>
           (fM_itemOf u a1 p14.1).bind fun x15 =>
           some (x15, p14.2)
         else
           some ((iz (-1)), g13) : Option (Int32 × mS)).bind fun s16 =>
        some (.inl ((s7.1 ||| ((iz 1) <<< (s7.2.1 &&& 31))), s16.1, s16.2))
  else
    some (.inr s7.2.2)
def fM_items (u : Nat) (g : mS) (a1 : Int32) (a2 : Nat) (a3 : Int32) (a4 : Int32) : Option (mS) :=
  (nx_iter u (fM_items_3 u a1 a2 a3 a4) ((iz 0), g)).bind fun e4 =>
  (fM_ahead u e4).bind fun p5 =>
  (fM_itemOf u a1 p5.1).bind fun x6 =>
  (nx_iter u (fM_items_41 u a1 a2 a3) ((iz 0), x6, p5.2)).bind fun e17 =>
  some e17
set_option maxRecDepth 4000 in
theorem jM_items_3 {Γ : nx_G} {M0 : nx_M} {m : Nat} (u : Nat) (a1 : Int32) (a2 : Nat) (a3 : Int32) (a4 : Int32) (ha2 : 1 ≤ a2 ∧ a2 ≤ 13)  (X : nx_X) (Z : nx_Z) (s1 : Int32 × mS) : nx_J Γ X (RX8, cX8_items, 7, none, "items", 4) Z (Sum.elim (fun s1 : Int32 × mS => .inl (3, [some (.ref m), some (.int a1), some (.ref (m + a2)), some (.int a3), some (.int a4), some (.int s1.1), none], [], (mW Γ M0 m s1.2))) (fun e4 : mS => .inl (28, [some (.ref m), some (.int a1), some (.ref (m + a2)), some (.int a3), some (.int a4), none, none], [], (mW Γ M0 m e4)))) (.inl (3, [some (.ref m), some (.int a1), some (.ref (m + a2)), some (.int a3), some (.int a4), some (.int s1.1), none], [], (mW Γ M0 m s1.2))) (fM_items_3 u a1 a2 a3 a4 s1) := by
  unfold fM_items_3
  refine nx_iload rfl dX8_items_3 rfl ?_
  refine nx_iload rfl dX8_items_5 rfl ?_
  refine nx_icmp_ge (t := 28) dX8_items_7 (by decide) rfl ?_ ?_
  · refine nx_weak (ls' := [some (.ref m), some (.int a1), some (.ref (m + a2)), some (.int a3), some (.int a4), none, none]) (nx_wk_s (nx_wk_s (nx_wk_s (nx_wk_s (nx_wk_s (nx_wk_n (nx_wk_n nx_wk_e))))))) ?_
    obtain ⟨_, _⟩ := s1
    exact nx_leaf rfl
  · refine nx_aload_n rfl dX8_items_10 rfl ?_
    refine nx_iload_n rfl dX8_items_11 rfl ?_
    refine nx_iload rfl dX8_items_12 rfl ?_
    refine nx_iadd dX8_items_14 rfl ?_
    refine nx_iload_n rfl dX8_items_15 rfl ?_
    refine nx_iload rfl dX8_items_16 rfl ?_
    refine nx_callSr [.int a1, .int s1.1] (fun r => .int r) (fun _ => (mW Γ M0 m s1.2)) cw_8_85 wd_1254 (fun r e => cM_usual X.2.1  e) rfl rfl (Nat.le_of_ble_eq_true rfl) (Nat.le_of_ble_eq_true rfl) dX8_items_18 rfl (fun x2 => ?_)
    refine m_iast a2 ha2 dX8_items_21 rfl (fun g3 => ?_)
    refine nx_iinc [some (.ref m), some (.int a1), some (.ref (m + a2)), some (.int a3), some (.int a4), some (.int (s1.1 + iz 1)), none] dX8_items_22 rfl rfl (Nat.le_of_ble_eq_true rfl) rfl rfl ?_
    refine nx_goto (q := 3) dX8_items_25 (by decide) ?_
    obtain ⟨_, _⟩ := s1
    exact nx_leaf rfl
set_option maxRecDepth 4000 in
theorem jM_items_41 {Γ : nx_G} {M0 : nx_M} {m : Nat} (u : Nat) (a1 : Int32) (a2 : Nat) (a3 : Int32) (a4 : Int32) (ha2 : 1 ≤ a2 ∧ a2 ≤ 13)  (X : nx_X) (Z : nx_Z) (s7 : Int32 × Int32 × mS) : nx_J Γ X (RX8, cX8_items, 7, none, "items", 4) Z (Sum.elim (fun s7 : Int32 × Int32 × mS => .inl (41, [some (.ref m), some (.int a1), some (.ref (m + a2)), some (.int a3), some (.int a4), some (.int s7.1), some (.int s7.2.1)], [], (mW Γ M0 m s7.2.2))) (fun e17 : mS => .inl (131, [some (.ref m), some (.int a1), some (.ref (m + a2)), some (.int a3), some (.int a4), none, none], [], (mW Γ M0 m e17)))) (.inl (41, [some (.ref m), some (.int a1), some (.ref (m + a2)), some (.int a3), some (.int a4), some (.int s7.1), some (.int s7.2.1)], [], (mW Γ M0 m s7.2.2))) (fM_items_41 u a1 a2 a3 s7) := by
  unfold fM_items_41
  refine nx_aload_n rfl dX8_items_41 rfl ?_
  refine nx_getf fl_8_72 mW_m rfl dX8_items_42 rfl ?_
  refine nx_iconst dX8_items_45 rfl ?_
  refine nx_icmp_ne (t := 131) dX8_items_46 (by decide) rfl ?_ ?_
  · refine nx_weak (ls' := [some (.ref m), some (.int a1), some (.ref (m + a2)), some (.int a3), some (.int a4), none, none]) (nx_wk_s (nx_wk_s (nx_wk_s (nx_wk_s (nx_wk_s (nx_wk_n (nx_wk_n nx_wk_e))))))) ?_
    obtain ⟨_, _, _⟩ := s7
    exact nx_leaf rfl
  · refine nx_iload rfl dX8_items_49 rfl ?_
    refine nx_iconst dX8_items_51 rfl ?_
    refine nx_icmp_eq (t := 131) dX8_items_52 (by decide) rfl ?_ ?_
    · refine nx_weak (ls' := [some (.ref m), some (.int a1), some (.ref (m + a2)), some (.int a3), some (.int a4), none, none]) (nx_wk_s (nx_wk_s (nx_wk_s (nx_wk_s (nx_wk_s (nx_wk_n (nx_wk_n nx_wk_e))))))) ?_
      obtain ⟨_, _, _⟩ := s7
      exact nx_leaf rfl
    · refine nx_iload rfl dX8_items_55 rfl ?_
      refine nx_iload rfl dX8_items_57 rfl ?_
      refine nx_callSr [.int s7.1, .int s7.2.1] (fun r => .int (bz r)) (fun _ => (mW Γ M0 m s7.2.2)) cw_8_92 wd_1272 (fun r e => cM_has X.2.1  e) rfl rfl (Nat.le_of_ble_eq_true rfl) (Nat.le_of_ble_eq_true rfl) dX8_items_59 rfl (fun b8 => ?_)
      refine nx_ifz_ne (t := 131) dX8_items_62 (by decide) rfl ?_ ?_
      · refine nx_weak (ls' := [some (.ref m), some (.int a1), some (.ref (m + a2)), some (.int a3), some (.int a4), none, none]) (nx_wk_s (nx_wk_s (nx_wk_s (nx_wk_s (nx_wk_s (nx_wk_n (nx_wk_n nx_wk_e))))))) ?_
        obtain ⟨_, _, _⟩ := s7
        exact nx_leaf rfl
      · refine nx_iload rfl dX8_items_65 rfl ?_
        refine nx_iconst dX8_items_67 rfl ?_
        refine nx_iload rfl dX8_items_68 rfl ?_
        refine nx_ishl dX8_items_70 rfl ?_
        refine nx_ior dX8_items_71 rfl ?_
        refine nx_istore [some (.ref m), some (.int a1), some (.ref (m + a2)), some (.int a3), some (.int a4), some (.int (s7.1 ||| ((iz 1) <<< (s7.2.1 &&& 31)))), some (.int s7.2.1)] dX8_items_72 rfl (Nat.le_of_ble_eq_true rfl) rfl rfl ?_
        refine nx_aload_n rfl dX8_items_74 rfl ?_
        refine nx_dup rfl dX8_items_75 rfl ?_
        refine nx_getf fl_8_65 mW_m rfl dX8_items_76 rfl ?_
        refine nx_iconst dX8_items_79 rfl ?_
        refine nx_iadd dX8_items_80 rfl ?_
        refine m_put fl_8_65 ft_8_3 rfl rfl (Nat.le_of_ble_eq_true rfl) rfl dX8_items_81 rfl (fun g9 => ?_)
        refine nx_aload_n rfl dX8_items_84 rfl ?_
        refine nx_iload_n rfl dX8_items_85 rfl ?_
        refine nx_iload rfl dX8_items_86 rfl ?_
        refine nx_iadd dX8_items_88 rfl ?_
        refine nx_aload_n rfl dX8_items_89 rfl ?_
        refine nx_iload_n rfl dX8_items_90 rfl ?_
        refine nx_iload rfl dX8_items_91 rfl ?_
        refine nx_callSr [.int a1, .int s7.2.1] (fun r => .int r) (fun _ => (mW Γ M0 m g9)) cw_8_96 wd_1275 (fun r e => cM_lowest X.2.1  e) rfl rfl (Nat.le_of_ble_eq_true rfl) (Nat.le_of_ble_eq_true rfl) dX8_items_93 rfl (fun x10 => ?_)
        refine nx_iload_n rfl dX8_items_96 rfl ?_
        refine nx_iload rfl dX8_items_97 rfl ?_
        refine nx_callSr [.int a1, .int s7.2.1] (fun r => .int r) (fun _ => (mW Γ M0 m g9)) cw_8_99 wd_1278 (fun r e => cM_highest X.2.1  e) rfl rfl (Nat.le_of_ble_eq_true rfl) (Nat.le_of_ble_eq_true rfl) dX8_items_99 rfl (fun x11 => ?_)
        refine nx_callVr [.int x10, .int x11] (fun r => .int r.1) (fun r => (mW Γ M0 m r.2)) cw_8_102 cv_X8_number (fun r e => cM_number X.2.1  e) mW_m rfl rfl (Nat.le_of_ble_eq_true rfl) (Nat.le_of_ble_eq_true rfl) dX8_items_102 rfl (fun p12 => ?_)
        refine m_iast a2 ha2 dX8_items_105 rfl (fun g13 => ?_)
        refine nx_aload_n rfl dX8_items_106 rfl ?_
        refine nx_getf fl_8_72 mW_m rfl dX8_items_107 rfl ?_
        refine nx_iconst dX8_items_110 rfl ?_
        refine nx_seq (C1 := fun s16 : Int32 × mS => .inl (126, [some (.ref m), some (.int a1), some (.ref (m + a2)), some (.int a3), some (.int a4), some (.int (s7.1 ||| ((iz 1) <<< (s7.2.1 &&& 31)))), some (.int s7.2.1)], [.int s16.1], (mW Γ M0 m s16.2))) ?_ (fun s16 => ?_)
        · refine nx_icmp_ne (t := 125) dX8_items_111 (by decide) rfl ?_ ?_
          · refine nx_iconst dX8_items_125 rfl ?_
            obtain ⟨_, _, _⟩ := s7
            exact nx_leaf rfl
          · refine nx_iload_n rfl dX8_items_114 rfl ?_
            refine nx_aload_n rfl dX8_items_115 rfl ?_
            refine nx_callVr [] (fun r => .int r.1) (fun r => (mW Γ M0 m r.2)) cw_8_75 cv_X8_ahead (fun r e => cM_ahead X.2.1  e) mW_m rfl rfl (Nat.le_of_ble_eq_true rfl) (Nat.le_of_ble_eq_true rfl) dX8_items_116 rfl (fun p14 => ?_)
            refine nx_callSr [.int a1, .int p14.1] (fun r => .int r) (fun _ => (mW Γ M0 m p14.2)) cw_8_89 wd_1269 (fun r e => cM_itemOf X.2.1  e) rfl rfl (Nat.le_of_ble_eq_true rfl) (Nat.le_of_ble_eq_true rfl) dX8_items_119 rfl (fun x15 => ?_)
            refine nx_goto (q := 126) dX8_items_122 (by decide) ?_
            obtain ⟨_, _, _⟩ := s7
            obtain ⟨_, _⟩ := p14
            exact nx_leaf rfl
        refine nx_istore [some (.ref m), some (.int a1), some (.ref (m + a2)), some (.int a3), some (.int a4), some (.int (s7.1 ||| ((iz 1) <<< (s7.2.1 &&& 31)))), some (.int s16.1)] dX8_items_126 rfl (Nat.le_of_ble_eq_true rfl) rfl rfl ?_
        refine nx_goto (q := 41) dX8_items_128 (by decide) ?_
        obtain ⟨_, _, _⟩ := s7
        obtain ⟨_, _⟩ := s16
        exact nx_leaf rfl
set_option maxRecDepth 4000 in
theorem jM_items {Γ : nx_G} {M0 : nx_M} {m : Nat} (u : Nat) (g : mS) (a1 : Int32) (a2 : Nat) (a3 : Int32) (a4 : Int32) (ha2 : 1 ≤ a2 ∧ a2 ≤ 13)  (X : nx_X) (Z : nx_Z) : nx_J Γ X (RX8, cX8_items, 7, none, "items", 4) Z (fun r0 : mS => .inr (none, (mW Γ M0 m r0))) (.inl (0, [some (.ref m), some (.int a1), some (.ref (m + a2)), some (.int a3), some (.int a4), none, none], [], (mW Γ M0 m g))) (fM_items u g a1 a2 a3 a4) := by
  unfold fM_items
  refine nx_iconst dX8_items_0 rfl ?_
  refine nx_istore [some (.ref m), some (.int a1), some (.ref (m + a2)), some (.int a3), some (.int a4), some (.int (iz 0)), none] dX8_items_1 rfl (Nat.le_of_ble_eq_true rfl) rfl rfl ?_
  refine nx_seq (C1 := fun e4 : mS => .inl (28, [some (.ref m), some (.int a1), some (.ref (m + a2)), some (.int a3), some (.int a4), none, none], [], (mW Γ M0 m e4))) (nx_loop (C1 := fun s1 : Int32 × mS => .inl (3, [some (.ref m), some (.int a1), some (.ref (m + a2)), some (.int a3), some (.int a4), some (.int s1.1), none], [], (mW Γ M0 m s1.2))) (fun s1 => jM_items_3  u a1 a2 a3 a4 ha2 X Z s1) ((iz 0), g)) (fun e4 => ?_)
  refine nx_iconst dX8_items_28 rfl ?_
  refine nx_istore [some (.ref m), some (.int a1), some (.ref (m + a2)), some (.int a3), some (.int a4), some (.int (iz 0)), none] dX8_items_29 rfl (Nat.le_of_ble_eq_true rfl) rfl rfl ?_
  refine nx_iload_n rfl dX8_items_31 rfl ?_
  refine nx_aload_n rfl dX8_items_32 rfl ?_
  refine nx_callVr [] (fun r => .int r.1) (fun r => (mW Γ M0 m r.2)) cw_8_75 cv_X8_ahead (fun r e => cM_ahead X.2.1  e) mW_m rfl rfl (Nat.le_of_ble_eq_true rfl) (Nat.le_of_ble_eq_true rfl) dX8_items_33 rfl (fun p5 => ?_)
  refine nx_callSr [.int a1, .int p5.1] (fun r => .int r) (fun _ => (mW Γ M0 m p5.2)) cw_8_89 wd_1269 (fun r e => cM_itemOf X.2.1  e) rfl rfl (Nat.le_of_ble_eq_true rfl) (Nat.le_of_ble_eq_true rfl) dX8_items_36 rfl (fun x6 => ?_)
  refine nx_istore [some (.ref m), some (.int a1), some (.ref (m + a2)), some (.int a3), some (.int a4), some (.int (iz 0)), some (.int x6)] dX8_items_39 rfl (Nat.le_of_ble_eq_true rfl) rfl rfl ?_
  refine nx_seq (C1 := fun e17 : mS => .inl (131, [some (.ref m), some (.int a1), some (.ref (m + a2)), some (.int a3), some (.int a4), none, none], [], (mW Γ M0 m e17))) (nx_loop (C1 := fun s7 : Int32 × Int32 × mS => .inl (41, [some (.ref m), some (.int a1), some (.ref (m + a2)), some (.int a3), some (.int a4), some (.int s7.1), some (.int s7.2.1)], [], (mW Γ M0 m s7.2.2))) (fun s7 => jM_items_41  u a1 a2 a3 a4 ha2 X Z s7) ((iz 0), x6, p5.2)) (fun e17 => ?_)
  exact nx_vret dX8_items_131 rfl rfl
theorem cM_items (l : Launch) {Γ : nx_G} {M0 : nx_M} {m : Nat} {u : Nat} {g : mS} {a1 : Int32} {a2 : Nat} {a3 : Int32} {a4 : Int32} {r : mS} (ha2 : 1 ≤ a2 ∧ a2 ≤ 13) (h : fM_items u g a1 a2 a3 a4 = some r) : nx_Ct l Γ 4 yX8_items cX8_items 7 none [.ref m, .int a1, .ref (m + a2), .int a3, .int a4] (mW Γ M0 m g) (none, (mW Γ M0 m r)) :=
  nx_ct (out := fun r0 : mS => (none, (mW Γ M0 m r0))) [some (.ref m), some (.int a1), some (.ref (m + a2)), some (.int a3), some (.int a4), none, none] pn_RX8 h (Nat.le_of_ble_eq_true rfl) rfl (fun X Z _ => jM_items  u g a1 a2 a3 a4 ha2 X Z)
theorem dX8_readStore_0 : decode cX8_readStore 0 = .ok (.aload_n 0, 1) := by decide +kernel
theorem dX8_readStore_1 : decode cX8_readStore 1 = .ok (.iconst 0, 1) := by decide +kernel
theorem dX8_readStore_2 : decode cX8_readStore 2 = .ok (.putfield 65, 3) := by decide +kernel
theorem dX8_readStore_5 : decode cX8_readStore 5 = .ok (.aload_n 0, 1) := by decide +kernel
theorem dX8_readStore_6 : decode cX8_readStore 6 = .ok (.iconst (-1), 1) := by decide +kernel
theorem dX8_readStore_7 : decode cX8_readStore 7 = .ok (.putfield 72, 3) := by decide +kernel
theorem dX8_readStore_10 : decode cX8_readStore 10 = .ok (.aload_n 0, 1) := by decide +kernel
theorem dX8_readStore_11 : decode cX8_readStore 11 = .ok (.iconst 0, 1) := by decide +kernel
theorem dX8_readStore_12 : decode cX8_readStore 12 = .ok (.putfield 105, 3) := by decide +kernel
theorem dX8_readStore_15 : decode cX8_readStore 15 = .ok (.iconst 0, 1) := by decide +kernel
theorem dX8_readStore_16 : decode cX8_readStore 16 = .ok (.istore_n 1, 1) := by decide +kernel
theorem dX8_readStore_17 : decode cX8_readStore 17 = .ok (.iconst 0, 1) := by decide +kernel
theorem dX8_readStore_18 : decode cX8_readStore 18 = .ok (.istore_n 2, 1) := by decide +kernel
theorem dX8_readStore_19 : decode cX8_readStore 19 = .ok (.iload_n 2, 1) := by decide +kernel
theorem dX8_readStore_20 : decode cX8_readStore 20 = .ok (.iconst 3, 1) := by decide +kernel
theorem dX8_readStore_21 : decode cX8_readStore 21 = .ok (.if_icmp .ge 21, 3) := by decide +kernel
theorem dX8_readStore_24 : decode cX8_readStore 24 = .ok (.aload_n 0, 1) := by decide +kernel
theorem dX8_readStore_25 : decode cX8_readStore 25 = .ok (.getfield 13, 3) := by decide +kernel
theorem dX8_readStore_28 : decode cX8_readStore 28 = .ok (.iload_n 2, 1) := by decide +kernel
theorem dX8_readStore_29 : decode cX8_readStore 29 = .ok (.bipush 115, 2) := by decide +kernel
theorem dX8_readStore_31 : decode cX8_readStore 31 = .ok (.iload_n 2, 1) := by decide +kernel
theorem dX8_readStore_32 : decode cX8_readStore 32 = .ok (.invokestatic 85, 3) := by decide +kernel
theorem dX8_readStore_35 : decode cX8_readStore 35 = .ok (.iastore, 1) := by decide +kernel
theorem dX8_readStore_36 : decode cX8_readStore 36 = .ok (.iinc 2 1, 3) := by decide +kernel
theorem dX8_readStore_39 : decode cX8_readStore 39 = .ok (.goto (-20), 3) := by decide +kernel
theorem dX8_readStore_42 : decode cX8_readStore 42 = .ok (.iconst 1, 1) := by decide +kernel
theorem dX8_readStore_43 : decode cX8_readStore 43 = .ok (.istore_n 2, 1) := by decide +kernel
theorem dX8_readStore_44 : decode cX8_readStore 44 = .ok (.iload_n 2, 1) := by decide +kernel
theorem dX8_readStore_45 : decode cX8_readStore 45 = .ok (.ifCond .eq 152, 3) := by decide +kernel
theorem dX8_readStore_48 : decode cX8_readStore 48 = .ok (.aload_n 0, 1) := by decide +kernel
theorem dX8_readStore_49 : decode cX8_readStore 49 = .ok (.getfield 72, 3) := by decide +kernel
theorem dX8_readStore_52 : decode cX8_readStore 52 = .ok (.iconst (-1), 1) := by decide +kernel
theorem dX8_readStore_53 : decode cX8_readStore 53 = .ok (.if_icmp .ne 144, 3) := by decide +kernel
theorem dX8_readStore_56 : decode cX8_readStore 56 = .ok (.aload_n 0, 1) := by decide +kernel
theorem dX8_readStore_57 : decode cX8_readStore 57 = .ok (.invokevirtual 75, 3) := by decide +kernel
theorem dX8_readStore_60 : decode cX8_readStore 60 = .ok (.istore_n 3, 1) := by decide +kernel
theorem dX8_readStore_61 : decode cX8_readStore 61 = .ok (.iload_n 3, 1) := by decide +kernel
theorem dX8_readStore_62 : decode cX8_readStore 62 = .ok (.bipush 115, 2) := by decide +kernel
theorem dX8_readStore_64 : decode cX8_readStore 64 = .ok (.if_icmp .ne 33, 3) := by decide +kernel
theorem dX8_readStore_67 : decode cX8_readStore 67 = .ok (.iload_n 1, 1) := by decide +kernel
theorem dX8_readStore_68 : decode cX8_readStore 68 = .ok (.ifCond .ne 29, 3) := by decide +kernel
theorem dX8_readStore_71 : decode cX8_readStore 71 = .ok (.iconst 1, 1) := by decide +kernel
theorem dX8_readStore_72 : decode cX8_readStore 72 = .ok (.istore_n 1, 1) := by decide +kernel
theorem dX8_readStore_73 : decode cX8_readStore 73 = .ok (.aload_n 0, 1) := by decide +kernel
theorem dX8_readStore_74 : decode cX8_readStore 74 = .ok (.dup, 1) := by decide +kernel
theorem dX8_readStore_75 : decode cX8_readStore 75 = .ok (.getfield 65, 3) := by decide +kernel
theorem dX8_readStore_78 : decode cX8_readStore 78 = .ok (.iconst 1, 1) := by decide +kernel
theorem dX8_readStore_79 : decode cX8_readStore 79 = .ok (.iadd, 1) := by decide +kernel
theorem dX8_readStore_80 : decode cX8_readStore 80 = .ok (.putfield 65, 3) := by decide +kernel
theorem dX8_readStore_83 : decode cX8_readStore 83 = .ok (.aload_n 0, 1) := by decide +kernel
theorem dX8_readStore_84 : decode cX8_readStore 84 = .ok (.iload_n 3, 1) := by decide +kernel
theorem dX8_readStore_85 : decode cX8_readStore 85 = .ok (.aload_n 0, 1) := by decide +kernel
theorem dX8_readStore_86 : decode cX8_readStore 86 = .ok (.getfield 13, 3) := by decide +kernel
theorem dX8_readStore_89 : decode cX8_readStore 89 = .ok (.iconst 0, 1) := by decide +kernel
theorem dX8_readStore_90 : decode cX8_readStore 90 = .ok (.iconst 3, 1) := by decide +kernel
theorem dX8_readStore_91 : decode cX8_readStore 91 = .ok (.invokevirtual 108, 3) := by decide +kernel
theorem dX8_readStore_94 : decode cX8_readStore 94 = .ok (.goto 59, 3) := by decide +kernel
theorem dX8_readStore_97 : decode cX8_readStore 97 = .ok (.iload_n 3, 1) := by decide +kernel
theorem dX8_readStore_98 : decode cX8_readStore 98 = .ok (.bipush 107, 2) := by decide +kernel
theorem dX8_readStore_100 : decode cX8_readStore 100 = .ok (.if_icmp .ne 49, 3) := by decide +kernel
theorem dX8_readStore_103 : decode cX8_readStore 103 = .ok (.aload_n 0, 1) := by decide +kernel
theorem dX8_readStore_104 : decode cX8_readStore 104 = .ok (.getfield 105, 3) := by decide +kernel
theorem dX8_readStore_107 : decode cX8_readStore 107 = .ok (.bipush 6, 2) := by decide +kernel
theorem dX8_readStore_109 : decode cX8_readStore 109 = .ok (.if_icmp .ge 40, 3) := by decide +kernel
theorem dX8_readStore_112 : decode cX8_readStore 112 = .ok (.aload_n 0, 1) := by decide +kernel
theorem dX8_readStore_113 : decode cX8_readStore 113 = .ok (.dup, 1) := by decide +kernel
theorem dX8_readStore_114 : decode cX8_readStore 114 = .ok (.getfield 65, 3) := by decide +kernel
theorem dX8_readStore_117 : decode cX8_readStore 117 = .ok (.iconst 1, 1) := by decide +kernel
theorem dX8_readStore_118 : decode cX8_readStore 118 = .ok (.iadd, 1) := by decide +kernel
theorem dX8_readStore_119 : decode cX8_readStore 119 = .ok (.putfield 65, 3) := by decide +kernel
theorem dX8_readStore_122 : decode cX8_readStore 122 = .ok (.aload_n 0, 1) := by decide +kernel
theorem dX8_readStore_123 : decode cX8_readStore 123 = .ok (.iload_n 3, 1) := by decide +kernel
theorem dX8_readStore_124 : decode cX8_readStore 124 = .ok (.aload_n 0, 1) := by decide +kernel
theorem dX8_readStore_125 : decode cX8_readStore 125 = .ok (.getfield 16, 3) := by decide +kernel
theorem dX8_readStore_128 : decode cX8_readStore 128 = .ok (.aload_n 0, 1) := by decide +kernel
theorem dX8_readStore_129 : decode cX8_readStore 129 = .ok (.getfield 105, 3) := by decide +kernel
theorem dX8_readStore_132 : decode cX8_readStore 132 = .ok (.iconst 1, 1) := by decide +kernel
theorem dX8_readStore_133 : decode cX8_readStore 133 = .ok (.invokevirtual 108, 3) := by decide +kernel
theorem dX8_readStore_136 : decode cX8_readStore 136 = .ok (.aload_n 0, 1) := by decide +kernel
theorem dX8_readStore_137 : decode cX8_readStore 137 = .ok (.dup, 1) := by decide +kernel
theorem dX8_readStore_138 : decode cX8_readStore 138 = .ok (.getfield 105, 3) := by decide +kernel
theorem dX8_readStore_141 : decode cX8_readStore 141 = .ok (.iconst 1, 1) := by decide +kernel
theorem dX8_readStore_142 : decode cX8_readStore 142 = .ok (.iadd, 1) := by decide +kernel
theorem dX8_readStore_143 : decode cX8_readStore 143 = .ok (.putfield 105, 3) := by decide +kernel
theorem dX8_readStore_146 : decode cX8_readStore 146 = .ok (.goto 7, 3) := by decide +kernel
theorem dX8_readStore_149 : decode cX8_readStore 149 = .ok (.aload_n 0, 1) := by decide +kernel
theorem dX8_readStore_150 : decode cX8_readStore 150 = .ok (.invokevirtual 82, 3) := by decide +kernel
theorem dX8_readStore_153 : decode cX8_readStore 153 = .ok (.aload_n 0, 1) := by decide +kernel
theorem dX8_readStore_154 : decode cX8_readStore 154 = .ok (.getfield 72, 3) := by decide +kernel
theorem dX8_readStore_157 : decode cX8_readStore 157 = .ok (.iconst (-1), 1) := by decide +kernel
theorem dX8_readStore_158 : decode cX8_readStore 158 = .ok (.if_icmp .ne 16, 3) := by decide +kernel
theorem dX8_readStore_161 : decode cX8_readStore 161 = .ok (.aload_n 0, 1) := by decide +kernel
theorem dX8_readStore_162 : decode cX8_readStore 162 = .ok (.invokevirtual 75, 3) := by decide +kernel
theorem dX8_readStore_165 : decode cX8_readStore 165 = .ok (.bipush 59, 2) := by decide +kernel
theorem dX8_readStore_167 : decode cX8_readStore 167 = .ok (.if_icmp .ne 7, 3) := by decide +kernel
theorem dX8_readStore_170 : decode cX8_readStore 170 = .ok (.iconst 1, 1) := by decide +kernel
theorem dX8_readStore_171 : decode cX8_readStore 171 = .ok (.goto 4, 3) := by decide +kernel
theorem dX8_readStore_174 : decode cX8_readStore 174 = .ok (.iconst 0, 1) := by decide +kernel
theorem dX8_readStore_175 : decode cX8_readStore 175 = .ok (.istore_n 2, 1) := by decide +kernel
theorem dX8_readStore_176 : decode cX8_readStore 176 = .ok (.aload_n 0, 1) := by decide +kernel
theorem dX8_readStore_177 : decode cX8_readStore 177 = .ok (.dup, 1) := by decide +kernel
theorem dX8_readStore_178 : decode cX8_readStore 178 = .ok (.getfield 65, 3) := by decide +kernel
theorem dX8_readStore_181 : decode cX8_readStore 181 = .ok (.iload_n 2, 1) := by decide +kernel
theorem dX8_readStore_182 : decode cX8_readStore 182 = .ok (.ifCond .eq 7, 3) := by decide +kernel
theorem dX8_readStore_185 : decode cX8_readStore 185 = .ok (.iconst 1, 1) := by decide +kernel
theorem dX8_readStore_186 : decode cX8_readStore 186 = .ok (.goto 4, 3) := by decide +kernel
theorem dX8_readStore_189 : decode cX8_readStore 189 = .ok (.iconst 0, 1) := by decide +kernel
theorem dX8_readStore_190 : decode cX8_readStore 190 = .ok (.iadd, 1) := by decide +kernel
theorem dX8_readStore_191 : decode cX8_readStore 191 = .ok (.putfield 65, 3) := by decide +kernel
theorem dX8_readStore_194 : decode cX8_readStore 194 = .ok (.goto (-150), 3) := by decide +kernel
theorem dX8_readStore_197 : decode cX8_readStore 197 = .ok (.aload_n 0, 1) := by decide +kernel
theorem dX8_readStore_198 : decode cX8_readStore 198 = .ok (.getfield 72, 3) := by decide +kernel
theorem dX8_readStore_201 : decode cX8_readStore 201 = .ok (.iconst (-1), 1) := by decide +kernel
theorem dX8_readStore_202 : decode cX8_readStore 202 = .ok (.if_icmp .ne 22, 3) := by decide +kernel
theorem dX8_readStore_205 : decode cX8_readStore 205 = .ok (.aload_n 0, 1) := by decide +kernel
theorem dX8_readStore_206 : decode cX8_readStore 206 = .ok (.invokevirtual 75, 3) := by decide +kernel
theorem dX8_readStore_209 : decode cX8_readStore 209 = .ok (.iconst (-1), 1) := by decide +kernel
theorem dX8_readStore_210 : decode cX8_readStore 210 = .ok (.if_icmp .ne 10, 3) := by decide +kernel
theorem dX8_readStore_213 : decode cX8_readStore 213 = .ok (.aload_n 0, 1) := by decide +kernel
theorem dX8_readStore_214 : decode cX8_readStore 214 = .ok (.getfield 105, 3) := by decide +kernel
theorem dX8_readStore_217 : decode cX8_readStore 217 = .ok (.ifCond .ne 7, 3) := by decide +kernel
theorem dX8_readStore_220 : decode cX8_readStore 220 = .ok (.aload_n 0, 1) := by decide +kernel
theorem dX8_readStore_221 : decode cX8_readStore 221 = .ok (.invokevirtual 82, 3) := by decide +kernel
theorem dX8_readStore_224 : decode cX8_readStore 224 = .ok (.aload_n 0, 1) := by decide +kernel
theorem dX8_readStore_225 : decode cX8_readStore 225 = .ok (.getfield 72, 3) := by decide +kernel
theorem dX8_readStore_228 : decode cX8_readStore 228 = .ok (.ireturn, 1) := by decide +kernel
def fM_readStore_19 (u : Nat) (s4 : Int32 × mS) : Option ((Int32 × mS) ⊕ (mS)) :=
  if (iz 3) ≤ s4.1 then
    some (.inr s4.2)
  else
    (fM_usual u (iz 115) s4.1).bind fun x5 =>
    (mWr s4.2 2 s4.1 x5).bind fun g6 =>
    some (.inl ((s4.1 + iz 1), g6))
def fM_readStore_44 (u : Nat) (s8 : Int32 × Int32 × mS) : Option ((Int32 × Int32 × mS) ⊕ (mS)) :=
  if s8.2.1 = iz 0 then
    some (.inr s8.2.2)
  else
    if (s8.2.2.1 0 4) = (iz (-1)) then
      (fM_ahead u s8.2.2).bind fun p9 =>
      (if p9.1 = (iz 115) then
         if s8.1 = iz 0 then
           (some (mFs p9.2 3 ((p9.2.1 0 3) + (iz 1)))).bind fun g20 =>
           (fM_items u g20 p9.1 2 (iz 0) (iz 3)).bind fun g21 =>
           some ((iz 1), g21)
         else
           if p9.1 = (iz 107) then
             if (iz 6) ≤ (p9.2.1 0 7) then
               (fM_bad u p9.2).bind fun g16 =>
               some (s8.1, g16)
             else
               (some (mFs p9.2 3 ((p9.2.1 0 3) + (iz 1)))).bind fun g17 =>
               (fM_items u g17 p9.1 3 (g17.1 0 7) (iz 1)).bind fun g18 =>
               (some (mFs g18 7 ((g18.1 0 7) + (iz 1)))).bind fun g19 =>
               some (s8.1, g19)
           else
             (fM_bad u p9.2).bind fun g15 =>
             some (s8.1, g15)
       else
         if p9.1 = (iz 107) then
           if (iz 6) ≤ (p9.2.1 0 7) then
             (fM_bad u p9.2).bind fun g11 =>
             some (s8.1, g11)
           else
             (some (mFs p9.2 3 ((p9.2.1 0 3) + (iz 1)))).bind fun g12 =>
             (fM_items u g12 p9.1 3 (g12.1 0 7) (iz 1)).bind fun g13 =>
             (some (mFs g13 7 ((g13.1 0 7) + (iz 1)))).bind fun g14 =>
             some (s8.1, g14)
         else
           (fM_bad u p9.2).bind fun g10 =>
           some (s8.1, g10) : Option (Int32 × mS)).bind fun s22 =>
      (if (s22.2.1 0 4) = (iz (-1)) then
         (fM_ahead u s22.2).bind fun p23 =>
         if p23.1 = (iz 59) then
           some ((iz 1), p23.2)
         else
           some ((iz 0), p23.2)
       else
         some ((iz 0), s22.2) : Option (Int32 × mS)).bind fun s24 =>
      (if s24.1 = iz 0 then
         some (iz 0)
       else
         some (iz 1) : Option (Int32)).bind fun s25 =>
      (some (mFs s24.2 3 ((s24.2.1 0 3) + s25))).bind fun g26 =>
      some (.inl (s22.1, s24.1, g26))
    else
      some (.inr s8.2.2)
def fM_readStore (u : Nat) (g : mS) : Option (Int32 × mS) :=
  (some (mFs g 3 (iz 0))).bind fun g1 =>
  (some (mFs g1 4 (iz (-1)))).bind fun g2 =>
  (some (mFs g2 7 (iz 0))).bind fun g3 =>
  (nx_iter u (fM_readStore_19 u) ((iz 0), g3)).bind fun e7 =>
  (nx_iter u (fM_readStore_44 u) ((iz 0), (iz 1), e7)).bind fun e27 =>
  (if (e27.1 0 4) = (iz (-1)) then
     (fM_ahead u e27).bind fun p28 =>
     if p28.1 = (iz (-1)) then
       if (p28.2.1 0 7) = iz 0 then
         (fM_bad u p28.2).bind fun g30 =>
         some g30
       else
         some p28.2
     else
       (fM_bad u p28.2).bind fun g29 =>
       some g29
   else
     some e27 : Option (mS)).bind fun s31 =>
  some ((s31.1 0 4), s31)
set_option maxRecDepth 4000 in
theorem jM_readStore_19 {Γ : nx_G} {M0 : nx_M} {m : Nat} (u : Nat)   (X : nx_X) (Z : nx_Z) (s4 : Int32 × mS) : nx_J Γ X (RX8, cX8_readStore, 4, (some .int), "readStore", 5) Z (Sum.elim (fun s4 : Int32 × mS => .inl (19, [some (.ref m), some (.int (iz 0)), some (.int s4.1), none], [], (mW Γ M0 m s4.2))) (fun e7 : mS => .inl (42, [some (.ref m), some (.int (iz 0)), none, none], [], (mW Γ M0 m e7)))) (.inl (19, [some (.ref m), some (.int (iz 0)), some (.int s4.1), none], [], (mW Γ M0 m s4.2))) (fM_readStore_19 u s4) := by
  unfold fM_readStore_19
  refine nx_iload_n rfl dX8_readStore_19 rfl ?_
  refine nx_iconst dX8_readStore_20 rfl ?_
  refine nx_icmp_ge (t := 42) dX8_readStore_21 (by decide) rfl ?_ ?_
  · refine nx_weak (ls' := [some (.ref m), some (.int (iz 0)), none, none]) (nx_wk_s (nx_wk_s (nx_wk_n (nx_wk_n nx_wk_e)))) ?_
    obtain ⟨_, _⟩ := s4
    exact nx_leaf rfl
  · refine nx_aload_n rfl dX8_readStore_24 rfl ?_
    refine nx_getf fl_8_13 mW_m rfl dX8_readStore_25 rfl ?_
    refine nx_iload_n rfl dX8_readStore_28 rfl ?_
    refine nx_bipush (by decide +kernel) dX8_readStore_29 rfl ?_
    refine nx_iload_n rfl dX8_readStore_31 rfl ?_
    refine nx_callSr [.int (iz 115), .int s4.1] (fun r => .int r) (fun _ => (mW Γ M0 m s4.2)) cw_8_85 wd_1254 (fun r e => cM_usual X.2.1  e) rfl rfl (Nat.le_of_ble_eq_true rfl) (Nat.le_of_ble_eq_true rfl) dX8_readStore_32 rfl (fun x5 => ?_)
    refine m_iast 2 ⟨Nat.le_of_ble_eq_true rfl, Nat.le_of_ble_eq_true rfl⟩ dX8_readStore_35 rfl (fun g6 => ?_)
    refine nx_iinc [some (.ref m), some (.int (iz 0)), some (.int (s4.1 + iz 1)), none] dX8_readStore_36 rfl rfl (Nat.le_of_ble_eq_true rfl) rfl rfl ?_
    refine nx_goto (q := 19) dX8_readStore_39 (by decide) ?_
    obtain ⟨_, _⟩ := s4
    exact nx_leaf rfl
set_option maxRecDepth 4000 in
theorem jM_readStore_44 {Γ : nx_G} {M0 : nx_M} {m : Nat} (u : Nat)   (X : nx_X) (Z : nx_Z) (s8 : Int32 × Int32 × mS) : nx_J Γ X (RX8, cX8_readStore, 4, (some .int), "readStore", 5) Z (Sum.elim (fun s8 : Int32 × Int32 × mS => .inl (44, [some (.ref m), some (.int s8.1), some (.int s8.2.1), none], [], (mW Γ M0 m s8.2.2))) (fun e27 : mS => .inl (197, [some (.ref m), none, none, none], [], (mW Γ M0 m e27)))) (.inl (44, [some (.ref m), some (.int s8.1), some (.int s8.2.1), none], [], (mW Γ M0 m s8.2.2))) (fM_readStore_44 u s8) := by
  unfold fM_readStore_44
  refine nx_iload_n rfl dX8_readStore_44 rfl ?_
  refine nx_if_eq (t := 197) dX8_readStore_45 (by decide) rfl ?_ ?_
  · refine nx_weak (ls' := [some (.ref m), none, none, none]) (nx_wk_s (nx_wk_n (nx_wk_n (nx_wk_n nx_wk_e)))) ?_
    obtain ⟨_, _, _⟩ := s8
    exact nx_leaf rfl
  · refine nx_aload_n rfl dX8_readStore_48 rfl ?_
    refine nx_getf fl_8_72 mW_m rfl dX8_readStore_49 rfl ?_
    refine nx_iconst dX8_readStore_52 rfl ?_
    refine nx_icmp_ne (t := 197) dX8_readStore_53 (by decide) rfl ?_ ?_
    · refine nx_weak (ls' := [some (.ref m), none, none, none]) (nx_wk_s (nx_wk_n (nx_wk_n (nx_wk_n nx_wk_e)))) ?_
      obtain ⟨_, _, _⟩ := s8
      exact nx_leaf rfl
    · refine nx_aload_n rfl dX8_readStore_56 rfl ?_
      refine nx_callVr [] (fun r => .int r.1) (fun r => (mW Γ M0 m r.2)) cw_8_75 cv_X8_ahead (fun r e => cM_ahead X.2.1  e) mW_m rfl rfl (Nat.le_of_ble_eq_true rfl) (Nat.le_of_ble_eq_true rfl) dX8_readStore_57 rfl (fun p9 => ?_)
      refine nx_istore_n [some (.ref m), some (.int s8.1), some (.int s8.2.1), some (.int p9.1)] dX8_readStore_60 rfl (Nat.le_of_ble_eq_true rfl) rfl rfl ?_
      refine nx_iload_n rfl dX8_readStore_61 rfl ?_
      refine nx_bipush (by decide +kernel) dX8_readStore_62 rfl ?_
      refine nx_seq (C1 := fun s22 : Int32 × mS => .inl (153, [some (.ref m), some (.int s22.1), some (.int s8.2.1), some (.int p9.1)], [], (mW Γ M0 m s22.2))) ?_ (fun s22 => ?_)
      · refine nx_icmp_ne (t := 97) dX8_readStore_64 (by decide) rfl ?_ ?_
        · refine nx_iload_n rfl dX8_readStore_97 rfl ?_
          refine nx_bipush (by decide +kernel) dX8_readStore_98 rfl ?_
          refine nx_icmp_ne (t := 149) dX8_readStore_100 (by decide) rfl ?_ ?_
          · refine nx_aload_n rfl dX8_readStore_149 rfl ?_
            refine nx_callVv [] (fun r => (mW Γ M0 m r)) cw_8_82 cv_X8_bad (fun r e => cM_bad X.2.1  e) mW_m rfl rfl (Nat.le_of_ble_eq_true rfl) (Nat.le_of_ble_eq_true rfl) dX8_readStore_150 rfl (fun g10 => ?_)
            obtain ⟨_, _, _⟩ := s8
            obtain ⟨_, _⟩ := p9
            exact nx_leaf rfl
          · refine nx_aload_n rfl dX8_readStore_103 rfl ?_
            refine nx_getf fl_8_105 mW_m rfl dX8_readStore_104 rfl ?_
            refine nx_bipush (by decide +kernel) dX8_readStore_107 rfl ?_
            refine nx_icmp_ge (t := 149) dX8_readStore_109 (by decide) rfl ?_ ?_
            · refine nx_aload_n rfl dX8_readStore_149 rfl ?_
              refine nx_callVv [] (fun r => (mW Γ M0 m r)) cw_8_82 cv_X8_bad (fun r e => cM_bad X.2.1  e) mW_m rfl rfl (Nat.le_of_ble_eq_true rfl) (Nat.le_of_ble_eq_true rfl) dX8_readStore_150 rfl (fun g11 => ?_)
              obtain ⟨_, _, _⟩ := s8
              obtain ⟨_, _⟩ := p9
              exact nx_leaf rfl
            · refine nx_aload_n rfl dX8_readStore_112 rfl ?_
              refine nx_dup rfl dX8_readStore_113 rfl ?_
              refine nx_getf fl_8_65 mW_m rfl dX8_readStore_114 rfl ?_
              refine nx_iconst dX8_readStore_117 rfl ?_
              refine nx_iadd dX8_readStore_118 rfl ?_
              refine m_put fl_8_65 ft_8_3 rfl rfl (Nat.le_of_ble_eq_true rfl) rfl dX8_readStore_119 rfl (fun g12 => ?_)
              refine nx_aload_n rfl dX8_readStore_122 rfl ?_
              refine nx_iload_n rfl dX8_readStore_123 rfl ?_
              refine nx_aload_n rfl dX8_readStore_124 rfl ?_
              refine nx_getf fl_8_16 mW_m rfl dX8_readStore_125 rfl ?_
              refine nx_aload_n rfl dX8_readStore_128 rfl ?_
              refine nx_getf fl_8_105 mW_m rfl dX8_readStore_129 rfl ?_
              refine nx_iconst dX8_readStore_132 rfl ?_
              refine nx_callVv [.int p9.1, .ref (m + 3), .int (g12.1 0 7), .int (iz 1)] (fun r => (mW Γ M0 m r)) cw_8_108 cv_X8_items (fun r e => cM_items X.2.1 ⟨Nat.le_of_ble_eq_true rfl, Nat.le_of_ble_eq_true rfl⟩ e) mW_m rfl rfl (Nat.le_of_ble_eq_true rfl) (Nat.le_of_ble_eq_true rfl) dX8_readStore_133 rfl (fun g13 => ?_)
              refine nx_aload_n rfl dX8_readStore_136 rfl ?_
              refine nx_dup rfl dX8_readStore_137 rfl ?_
              refine nx_getf fl_8_105 mW_m rfl dX8_readStore_138 rfl ?_
              refine nx_iconst dX8_readStore_141 rfl ?_
              refine nx_iadd dX8_readStore_142 rfl ?_
              refine m_put fl_8_105 ft_8_7 rfl rfl (Nat.le_of_ble_eq_true rfl) rfl dX8_readStore_143 rfl (fun g14 => ?_)
              refine nx_goto (q := 153) dX8_readStore_146 (by decide) ?_
              obtain ⟨_, _, _⟩ := s8
              obtain ⟨_, _⟩ := p9
              exact nx_leaf rfl
        · refine nx_iload_n rfl dX8_readStore_67 rfl ?_
          refine nx_if_ne (t := 97) dX8_readStore_68 (by decide) rfl ?_ ?_
          · refine nx_iload_n rfl dX8_readStore_97 rfl ?_
            refine nx_bipush (by decide +kernel) dX8_readStore_98 rfl ?_
            refine nx_icmp_ne (t := 149) dX8_readStore_100 (by decide) rfl ?_ ?_
            · refine nx_aload_n rfl dX8_readStore_149 rfl ?_
              refine nx_callVv [] (fun r => (mW Γ M0 m r)) cw_8_82 cv_X8_bad (fun r e => cM_bad X.2.1  e) mW_m rfl rfl (Nat.le_of_ble_eq_true rfl) (Nat.le_of_ble_eq_true rfl) dX8_readStore_150 rfl (fun g15 => ?_)
              obtain ⟨_, _, _⟩ := s8
              obtain ⟨_, _⟩ := p9
              exact nx_leaf rfl
            · refine nx_aload_n rfl dX8_readStore_103 rfl ?_
              refine nx_getf fl_8_105 mW_m rfl dX8_readStore_104 rfl ?_
              refine nx_bipush (by decide +kernel) dX8_readStore_107 rfl ?_
              refine nx_icmp_ge (t := 149) dX8_readStore_109 (by decide) rfl ?_ ?_
              · refine nx_aload_n rfl dX8_readStore_149 rfl ?_
                refine nx_callVv [] (fun r => (mW Γ M0 m r)) cw_8_82 cv_X8_bad (fun r e => cM_bad X.2.1  e) mW_m rfl rfl (Nat.le_of_ble_eq_true rfl) (Nat.le_of_ble_eq_true rfl) dX8_readStore_150 rfl (fun g16 => ?_)
                obtain ⟨_, _, _⟩ := s8
                obtain ⟨_, _⟩ := p9
                exact nx_leaf rfl
              · refine nx_aload_n rfl dX8_readStore_112 rfl ?_
                refine nx_dup rfl dX8_readStore_113 rfl ?_
                refine nx_getf fl_8_65 mW_m rfl dX8_readStore_114 rfl ?_
                refine nx_iconst dX8_readStore_117 rfl ?_
                refine nx_iadd dX8_readStore_118 rfl ?_
                refine m_put fl_8_65 ft_8_3 rfl rfl (Nat.le_of_ble_eq_true rfl) rfl dX8_readStore_119 rfl (fun g17 => ?_)
                refine nx_aload_n rfl dX8_readStore_122 rfl ?_
                refine nx_iload_n rfl dX8_readStore_123 rfl ?_
                refine nx_aload_n rfl dX8_readStore_124 rfl ?_
                refine nx_getf fl_8_16 mW_m rfl dX8_readStore_125 rfl ?_
                refine nx_aload_n rfl dX8_readStore_128 rfl ?_
                refine nx_getf fl_8_105 mW_m rfl dX8_readStore_129 rfl ?_
                refine nx_iconst dX8_readStore_132 rfl ?_
                refine nx_callVv [.int p9.1, .ref (m + 3), .int (g17.1 0 7), .int (iz 1)] (fun r => (mW Γ M0 m r)) cw_8_108 cv_X8_items (fun r e => cM_items X.2.1 ⟨Nat.le_of_ble_eq_true rfl, Nat.le_of_ble_eq_true rfl⟩ e) mW_m rfl rfl (Nat.le_of_ble_eq_true rfl) (Nat.le_of_ble_eq_true rfl) dX8_readStore_133 rfl (fun g18 => ?_)
                refine nx_aload_n rfl dX8_readStore_136 rfl ?_
                refine nx_dup rfl dX8_readStore_137 rfl ?_
                refine nx_getf fl_8_105 mW_m rfl dX8_readStore_138 rfl ?_
                refine nx_iconst dX8_readStore_141 rfl ?_
                refine nx_iadd dX8_readStore_142 rfl ?_
                refine m_put fl_8_105 ft_8_7 rfl rfl (Nat.le_of_ble_eq_true rfl) rfl dX8_readStore_143 rfl (fun g19 => ?_)
                refine nx_goto (q := 153) dX8_readStore_146 (by decide) ?_
                obtain ⟨_, _, _⟩ := s8
                obtain ⟨_, _⟩ := p9
                exact nx_leaf rfl
          · refine nx_iconst dX8_readStore_71 rfl ?_
            refine nx_istore_n [some (.ref m), some (.int (iz 1)), some (.int s8.2.1), some (.int p9.1)] dX8_readStore_72 rfl (Nat.le_of_ble_eq_true rfl) rfl rfl ?_
            refine nx_aload_n rfl dX8_readStore_73 rfl ?_
            refine nx_dup rfl dX8_readStore_74 rfl ?_
            refine nx_getf fl_8_65 mW_m rfl dX8_readStore_75 rfl ?_
            refine nx_iconst dX8_readStore_78 rfl ?_
            refine nx_iadd dX8_readStore_79 rfl ?_
            refine m_put fl_8_65 ft_8_3 rfl rfl (Nat.le_of_ble_eq_true rfl) rfl dX8_readStore_80 rfl (fun g20 => ?_)
            refine nx_aload_n rfl dX8_readStore_83 rfl ?_
            refine nx_iload_n rfl dX8_readStore_84 rfl ?_
            refine nx_aload_n rfl dX8_readStore_85 rfl ?_
            refine nx_getf fl_8_13 mW_m rfl dX8_readStore_86 rfl ?_
            refine nx_iconst dX8_readStore_89 rfl ?_
            refine nx_iconst dX8_readStore_90 rfl ?_
            refine nx_callVv [.int p9.1, .ref (m + 2), .int (iz 0), .int (iz 3)] (fun r => (mW Γ M0 m r)) cw_8_108 cv_X8_items (fun r e => cM_items X.2.1 ⟨Nat.le_of_ble_eq_true rfl, Nat.le_of_ble_eq_true rfl⟩ e) mW_m rfl rfl (Nat.le_of_ble_eq_true rfl) (Nat.le_of_ble_eq_true rfl) dX8_readStore_91 rfl (fun g21 => ?_)
            refine nx_goto (q := 153) dX8_readStore_94 (by decide) ?_
            obtain ⟨_, _, _⟩ := s8
            obtain ⟨_, _⟩ := p9
            exact nx_leaf rfl
      refine nx_aload_n rfl dX8_readStore_153 rfl ?_
      refine nx_getf fl_8_72 mW_m rfl dX8_readStore_154 rfl ?_
      refine nx_iconst dX8_readStore_157 rfl ?_
      refine nx_seq (C1 := fun s24 : Int32 × mS => .inl (175, [some (.ref m), some (.int s22.1), some (.int s8.2.1), some (.int p9.1)], [.int s24.1], (mW Γ M0 m s24.2))) ?_ (fun s24 => ?_)
      · refine nx_icmp_ne (t := 174) dX8_readStore_158 (by decide) rfl ?_ ?_
        · refine nx_iconst dX8_readStore_174 rfl ?_
          obtain ⟨_, _, _⟩ := s8
          obtain ⟨_, _⟩ := p9
          obtain ⟨_, _⟩ := s22
          exact nx_leaf rfl
        · refine nx_aload_n rfl dX8_readStore_161 rfl ?_
          refine nx_callVr [] (fun r => .int r.1) (fun r => (mW Γ M0 m r.2)) cw_8_75 cv_X8_ahead (fun r e => cM_ahead X.2.1  e) mW_m rfl rfl (Nat.le_of_ble_eq_true rfl) (Nat.le_of_ble_eq_true rfl) dX8_readStore_162 rfl (fun p23 => ?_)
          refine nx_bipush (by decide +kernel) dX8_readStore_165 rfl ?_
          refine nx_icmp_ne (t := 174) dX8_readStore_167 (by decide) rfl ?_ ?_
          · refine nx_iconst dX8_readStore_174 rfl ?_
            obtain ⟨_, _, _⟩ := s8
            obtain ⟨_, _⟩ := p9
            obtain ⟨_, _⟩ := s22
            obtain ⟨_, _⟩ := p23
            exact nx_leaf rfl
          · refine nx_iconst dX8_readStore_170 rfl ?_
            refine nx_goto (q := 175) dX8_readStore_171 (by decide) ?_
            obtain ⟨_, _, _⟩ := s8
            obtain ⟨_, _⟩ := p9
            obtain ⟨_, _⟩ := s22
            obtain ⟨_, _⟩ := p23
            exact nx_leaf rfl
      refine nx_istore_n [some (.ref m), some (.int s22.1), some (.int s24.1), some (.int p9.1)] dX8_readStore_175 rfl (Nat.le_of_ble_eq_true rfl) rfl rfl ?_
      refine nx_aload_n rfl dX8_readStore_176 rfl ?_
      refine nx_dup rfl dX8_readStore_177 rfl ?_
      refine nx_getf fl_8_65 mW_m rfl dX8_readStore_178 rfl ?_
      refine nx_iload_n rfl dX8_readStore_181 rfl ?_
      refine nx_seq (C1 := fun s25 : Int32 => .inl (190, [some (.ref m), some (.int s22.1), some (.int s24.1), some (.int p9.1)], [.int s25, .int (s24.2.1 0 3), .ref m], (mW Γ M0 m s24.2))) ?_ (fun s25 => ?_)
      · refine nx_if_eq (t := 189) dX8_readStore_182 (by decide) rfl ?_ ?_
        · refine nx_iconst dX8_readStore_189 rfl ?_
          obtain ⟨_, _⟩ := p9
          obtain ⟨_, _⟩ := s22
          obtain ⟨_, _⟩ := s24
          exact nx_leaf rfl
        · refine nx_iconst dX8_readStore_185 rfl ?_
          refine nx_goto (q := 190) dX8_readStore_186 (by decide) ?_
          obtain ⟨_, _⟩ := p9
          obtain ⟨_, _⟩ := s22
          obtain ⟨_, _⟩ := s24
          exact nx_leaf rfl
      refine nx_iadd dX8_readStore_190 rfl ?_
      refine m_put fl_8_65 ft_8_3 rfl rfl (Nat.le_of_ble_eq_true rfl) rfl dX8_readStore_191 rfl (fun g26 => ?_)
      refine nx_goto (q := 44) dX8_readStore_194 (by decide) ?_
      refine nx_weak (ls' := [some (.ref m), some (.int s22.1), some (.int s24.1), none]) (nx_wk_s (nx_wk_s (nx_wk_s (nx_wk_n nx_wk_e)))) ?_
      obtain ⟨_, _⟩ := s22
      obtain ⟨_, _⟩ := s24
      exact nx_leaf rfl
set_option maxRecDepth 4000 in
theorem jM_readStore {Γ : nx_G} {M0 : nx_M} {m : Nat} (u : Nat) (g : mS)   (X : nx_X) (Z : nx_Z) : nx_J Γ X (RX8, cX8_readStore, 4, (some .int), "readStore", 5) Z (fun r0 : Int32 × mS => .inr (some (.int r0.1), (mW Γ M0 m r0.2))) (.inl (0, [some (.ref m), none, none, none], [], (mW Γ M0 m g))) (fM_readStore u g) := by
  unfold fM_readStore
  refine nx_aload_n rfl dX8_readStore_0 rfl ?_
  refine nx_iconst dX8_readStore_1 rfl ?_
  refine m_put fl_8_65 ft_8_3 rfl rfl (Nat.le_of_ble_eq_true rfl) rfl dX8_readStore_2 rfl (fun g1 => ?_)
  refine nx_aload_n rfl dX8_readStore_5 rfl ?_
  refine nx_iconst dX8_readStore_6 rfl ?_
  refine m_put fl_8_72 ft_8_4 rfl rfl (Nat.le_of_ble_eq_true rfl) rfl dX8_readStore_7 rfl (fun g2 => ?_)
  refine nx_aload_n rfl dX8_readStore_10 rfl ?_
  refine nx_iconst dX8_readStore_11 rfl ?_
  refine m_put fl_8_105 ft_8_7 rfl rfl (Nat.le_of_ble_eq_true rfl) rfl dX8_readStore_12 rfl (fun g3 => ?_)
  refine nx_iconst dX8_readStore_15 rfl ?_
  refine nx_istore_n [some (.ref m), some (.int (iz 0)), none, none] dX8_readStore_16 rfl (Nat.le_of_ble_eq_true rfl) rfl rfl ?_
  refine nx_iconst dX8_readStore_17 rfl ?_
  refine nx_istore_n [some (.ref m), some (.int (iz 0)), some (.int (iz 0)), none] dX8_readStore_18 rfl (Nat.le_of_ble_eq_true rfl) rfl rfl ?_
  refine nx_seq (C1 := fun e7 : mS => .inl (42, [some (.ref m), some (.int (iz 0)), none, none], [], (mW Γ M0 m e7))) (nx_loop (C1 := fun s4 : Int32 × mS => .inl (19, [some (.ref m), some (.int (iz 0)), some (.int s4.1), none], [], (mW Γ M0 m s4.2))) (fun s4 => jM_readStore_19  u X Z s4) ((iz 0), g3)) (fun e7 => ?_)
  refine nx_iconst dX8_readStore_42 rfl ?_
  refine nx_istore_n [some (.ref m), some (.int (iz 0)), some (.int (iz 1)), none] dX8_readStore_43 rfl (Nat.le_of_ble_eq_true rfl) rfl rfl ?_
  refine nx_seq (C1 := fun e27 : mS => .inl (197, [some (.ref m), none, none, none], [], (mW Γ M0 m e27))) (nx_loop (C1 := fun s8 : Int32 × Int32 × mS => .inl (44, [some (.ref m), some (.int s8.1), some (.int s8.2.1), none], [], (mW Γ M0 m s8.2.2))) (fun s8 => jM_readStore_44  u X Z s8) ((iz 0), (iz 1), e7)) (fun e27 => ?_)
  refine nx_aload_n rfl dX8_readStore_197 rfl ?_
  refine nx_getf fl_8_72 mW_m rfl dX8_readStore_198 rfl ?_
  refine nx_iconst dX8_readStore_201 rfl ?_
  refine nx_seq (C1 := fun s31 : mS => .inl (224, [some (.ref m), none, none, none], [], (mW Γ M0 m s31))) ?_ (fun s31 => ?_)
  · refine nx_icmp_ne (t := 224) dX8_readStore_202 (by decide) rfl ?_ ?_
    · exact nx_leaf rfl
    · refine nx_aload_n rfl dX8_readStore_205 rfl ?_
      refine nx_callVr [] (fun r => .int r.1) (fun r => (mW Γ M0 m r.2)) cw_8_75 cv_X8_ahead (fun r e => cM_ahead X.2.1  e) mW_m rfl rfl (Nat.le_of_ble_eq_true rfl) (Nat.le_of_ble_eq_true rfl) dX8_readStore_206 rfl (fun p28 => ?_)
      refine nx_iconst dX8_readStore_209 rfl ?_
      refine nx_icmp_ne (t := 220) dX8_readStore_210 (by decide) rfl ?_ ?_
      · refine nx_aload_n rfl dX8_readStore_220 rfl ?_
        refine nx_callVv [] (fun r => (mW Γ M0 m r)) cw_8_82 cv_X8_bad (fun r e => cM_bad X.2.1  e) mW_m rfl rfl (Nat.le_of_ble_eq_true rfl) (Nat.le_of_ble_eq_true rfl) dX8_readStore_221 rfl (fun g29 => ?_)
        exact nx_leaf rfl
      · refine nx_aload_n rfl dX8_readStore_213 rfl ?_
        refine nx_getf fl_8_105 mW_m rfl dX8_readStore_214 rfl ?_
        refine nx_if_ne (t := 224) dX8_readStore_217 (by decide) rfl ?_ ?_
        · obtain ⟨_, _⟩ := p28
          exact nx_leaf rfl
        · refine nx_aload_n rfl dX8_readStore_220 rfl ?_
          refine nx_callVv [] (fun r => (mW Γ M0 m r)) cw_8_82 cv_X8_bad (fun r e => cM_bad X.2.1  e) mW_m rfl rfl (Nat.le_of_ble_eq_true rfl) (Nat.le_of_ble_eq_true rfl) dX8_readStore_221 rfl (fun g30 => ?_)
          exact nx_leaf rfl
  refine nx_aload_n rfl dX8_readStore_224 rfl ?_
  refine nx_getf fl_8_72 mW_m rfl dX8_readStore_225 rfl ?_
  exact nx_iret dX8_readStore_228 rfl rfl
theorem cM_readStore (l : Launch) {Γ : nx_G} {M0 : nx_M} {m : Nat} {u : Nat} {g : mS} {r : Int32 × mS}  (h : fM_readStore u g = some r) : nx_Ct l Γ 5 yX8_readStore cX8_readStore 4 (some .int) [.ref m] (mW Γ M0 m g) (some (.int r.1), (mW Γ M0 m r.2)) :=
  nx_ct (out := fun r0 : Int32 × mS => (some (.int r0.1), (mW Γ M0 m r0.2))) [some (.ref m), none, none, none] pn_RX8 h (Nat.le_of_ble_eq_true rfl) rfl (fun X Z _ => jM_readStore  u g X Z)
theorem dX8_sortOf_0 : decode cX8_sortOf 0 = .ok (.iload_n 0, 1) := by decide +kernel
theorem dX8_sortOf_1 : decode cX8_sortOf 1 = .ok (.lookupswitch 71 #[(97, 67), (99, 65), (111, 59), (112, 69), (114, 61), (119, 63)], 59) := by decide +kernel
theorem dX8_sortOf_60 : decode cX8_sortOf 60 = .ok (.iconst 0, 1) := by decide +kernel
theorem dX8_sortOf_61 : decode cX8_sortOf 61 = .ok (.ireturn, 1) := by decide +kernel
theorem dX8_sortOf_62 : decode cX8_sortOf 62 = .ok (.iconst 1, 1) := by decide +kernel
theorem dX8_sortOf_63 : decode cX8_sortOf 63 = .ok (.ireturn, 1) := by decide +kernel
theorem dX8_sortOf_64 : decode cX8_sortOf 64 = .ok (.iconst 2, 1) := by decide +kernel
theorem dX8_sortOf_65 : decode cX8_sortOf 65 = .ok (.ireturn, 1) := by decide +kernel
theorem dX8_sortOf_66 : decode cX8_sortOf 66 = .ok (.iconst 3, 1) := by decide +kernel
theorem dX8_sortOf_67 : decode cX8_sortOf 67 = .ok (.ireturn, 1) := by decide +kernel
theorem dX8_sortOf_68 : decode cX8_sortOf 68 = .ok (.iconst 4, 1) := by decide +kernel
theorem dX8_sortOf_69 : decode cX8_sortOf 69 = .ok (.ireturn, 1) := by decide +kernel
theorem dX8_sortOf_70 : decode cX8_sortOf 70 = .ok (.iconst 5, 1) := by decide +kernel
theorem dX8_sortOf_71 : decode cX8_sortOf 71 = .ok (.ireturn, 1) := by decide +kernel
theorem dX8_sortOf_72 : decode cX8_sortOf 72 = .ok (.iconst (-1), 1) := by decide +kernel
theorem dX8_sortOf_73 : decode cX8_sortOf 73 = .ok (.ireturn, 1) := by decide +kernel
def fM_sortOf (u : Nat) (a1 : Int32) : Option (Int32) :=
  nx_ls a1 [
    (97, some (iz 4)),
    (99, some (iz 3)),
    (111, some (iz 0)),
    (112, some (iz 5)),
    (114, some (iz 1)),
    (119, some (iz 2)) ]
    (some (iz (-1)))
set_option maxRecDepth 4000 in
theorem jM_sortOf {Γ : nx_G} {M : nx_M} (u : Nat) (a1 : Int32)   (X : nx_X) (Z : nx_Z) : nx_J Γ X (RX8, cX8_sortOf, 1, (some .int), "sortOf", 1) Z (fun r0 : Int32 => .inr (some (.int r0), M)) (.inl (0, [some (.int a1)], [], M)) (fM_sortOf u a1) := by
  unfold fM_sortOf
  refine nx_iload_n rfl dX8_sortOf_0 rfl ?_
  refine nx_lsw (td := 72) dX8_sortOf_1 rfl (by decide) ?_ ?_
  · refine nx_iconst dX8_sortOf_72 rfl ?_
    exact nx_iret dX8_sortOf_73 rfl rfl
  refine nx_lsl_c 68 (by decide) ?_ ?_
  · refine nx_iconst dX8_sortOf_68 rfl ?_
    exact nx_iret dX8_sortOf_69 rfl rfl
  refine nx_lsl_c 66 (by decide) ?_ ?_
  · refine nx_iconst dX8_sortOf_66 rfl ?_
    exact nx_iret dX8_sortOf_67 rfl rfl
  refine nx_lsl_c 60 (by decide) ?_ ?_
  · refine nx_iconst dX8_sortOf_60 rfl ?_
    exact nx_iret dX8_sortOf_61 rfl rfl
  refine nx_lsl_c 70 (by decide) ?_ ?_
  · refine nx_iconst dX8_sortOf_70 rfl ?_
    exact nx_iret dX8_sortOf_71 rfl rfl
  refine nx_lsl_c 62 (by decide) ?_ ?_
  · refine nx_iconst dX8_sortOf_62 rfl ?_
    exact nx_iret dX8_sortOf_63 rfl rfl
  refine nx_lsl_c 64 (by decide) ?_ ?_
  · refine nx_iconst dX8_sortOf_64 rfl ?_
    exact nx_iret dX8_sortOf_65 rfl rfl
  exact nx_lsl_e
theorem cM_sortOf (l : Launch) {Γ : nx_G} {M : nx_M} {u : Nat} {a1 : Int32} {r : Int32}  (h : fM_sortOf u a1 = some r) : nx_Ct l Γ 1 yX8_sortOf cX8_sortOf 1 (some .int) [.int a1] M (some (.int r), M) :=
  nx_ct (out := fun r0 : Int32 => (some (.int r0), M)) [some (.int a1)] pn_RX8 h (Nat.le_of_ble_eq_true rfl) rfl (fun X Z _ => jM_sortOf  u a1 X Z)
theorem dX8_digitsOf_0 : decode cX8_digitsOf 0 = .ok (.iload_n 0, 1) := by decide +kernel
theorem dX8_digitsOf_1 : decode cX8_digitsOf 1 = .ok (.iconst 5, 1) := by decide +kernel
theorem dX8_digitsOf_2 : decode cX8_digitsOf 2 = .ok (.if_icmp .ne 7, 3) := by decide +kernel
theorem dX8_digitsOf_5 : decode cX8_digitsOf 5 = .ok (.iconst 0, 1) := by decide +kernel
theorem dX8_digitsOf_6 : decode cX8_digitsOf 6 = .ok (.goto 13, 3) := by decide +kernel
theorem dX8_digitsOf_9 : decode cX8_digitsOf 9 = .ok (.iload_n 0, 1) := by decide +kernel
theorem dX8_digitsOf_10 : decode cX8_digitsOf 10 = .ok (.iconst 3, 1) := by decide +kernel
theorem dX8_digitsOf_11 : decode cX8_digitsOf 11 = .ok (.if_icmp .lt 7, 3) := by decide +kernel
theorem dX8_digitsOf_14 : decode cX8_digitsOf 14 = .ok (.iconst 1, 1) := by decide +kernel
theorem dX8_digitsOf_15 : decode cX8_digitsOf 15 = .ok (.goto 4, 3) := by decide +kernel
theorem dX8_digitsOf_18 : decode cX8_digitsOf 18 = .ok (.iconst 2, 1) := by decide +kernel
theorem dX8_digitsOf_19 : decode cX8_digitsOf 19 = .ok (.ireturn, 1) := by decide +kernel
def fM_digitsOf (u : Nat) (a1 : Int32) : Option (Int32) :=
  if a1 = (iz 5) then
    some (iz 0)
  else
    if a1 < (iz 3) then
      some (iz 2)
    else
      some (iz 1)
set_option maxRecDepth 4000 in
theorem jM_digitsOf {Γ : nx_G} {M : nx_M} (u : Nat) (a1 : Int32)   (X : nx_X) (Z : nx_Z) : nx_J Γ X (RX8, cX8_digitsOf, 1, (some .int), "digitsOf", 1) Z (fun r0 : Int32 => .inr (some (.int r0), M)) (.inl (0, [some (.int a1)], [], M)) (fM_digitsOf u a1) := by
  unfold fM_digitsOf
  refine nx_iload_n rfl dX8_digitsOf_0 rfl ?_
  refine nx_iconst dX8_digitsOf_1 rfl ?_
  refine nx_icmp_ne (t := 9) dX8_digitsOf_2 (by decide) rfl ?_ ?_
  · refine nx_iload_n rfl dX8_digitsOf_9 rfl ?_
    refine nx_iconst dX8_digitsOf_10 rfl ?_
    refine nx_icmp_lt (t := 18) dX8_digitsOf_11 (by decide) rfl ?_ ?_
    · refine nx_iconst dX8_digitsOf_18 rfl ?_
      exact nx_iret dX8_digitsOf_19 rfl rfl
    · refine nx_iconst dX8_digitsOf_14 rfl ?_
      refine nx_goto (q := 19) dX8_digitsOf_15 (by decide) ?_
      exact nx_iret dX8_digitsOf_19 rfl rfl
  · refine nx_iconst dX8_digitsOf_5 rfl ?_
    refine nx_goto (q := 19) dX8_digitsOf_6 (by decide) ?_
    exact nx_iret dX8_digitsOf_19 rfl rfl
theorem cM_digitsOf (l : Launch) {Γ : nx_G} {M : nx_M} {u : Nat} {a1 : Int32} {r : Int32}  (h : fM_digitsOf u a1 = some r) : nx_Ct l Γ 1 yX8_digitsOf cX8_digitsOf 1 (some .int) [.int a1] M (some (.int r), M) :=
  nx_ct (out := fun r0 : Int32 => (some (.int r0), M)) [some (.int a1)] pn_RX8 h (Nat.le_of_ble_eq_true rfl) rfl (fun X Z _ => jM_digitsOf  u a1 X Z)
theorem dX8_digit_0 : decode cX8_digit 0 = .ok (.aload_n 0, 1) := by decide +kernel
theorem dX8_digit_1 : decode cX8_digit 1 = .ok (.invokevirtual 75, 3) := by decide +kernel
theorem dX8_digit_4 : decode cX8_digit 4 = .ok (.invokestatic 78, 3) := by decide +kernel
theorem dX8_digit_7 : decode cX8_digit 7 = .ok (.ifCond .ne 9, 3) := by decide +kernel
theorem dX8_digit_10 : decode cX8_digit 10 = .ok (.aload_n 0, 1) := by decide +kernel
theorem dX8_digit_11 : decode cX8_digit 11 = .ok (.invokevirtual 82, 3) := by decide +kernel
theorem dX8_digit_14 : decode cX8_digit 14 = .ok (.iconst 0, 1) := by decide +kernel
theorem dX8_digit_15 : decode cX8_digit 15 = .ok (.ireturn, 1) := by decide +kernel
theorem dX8_digit_16 : decode cX8_digit 16 = .ok (.aload_n 0, 1) := by decide +kernel
theorem dX8_digit_17 : decode cX8_digit 17 = .ok (.dup, 1) := by decide +kernel
theorem dX8_digit_18 : decode cX8_digit 18 = .ok (.getfield 65, 3) := by decide +kernel
theorem dX8_digit_21 : decode cX8_digit 21 = .ok (.iconst 1, 1) := by decide +kernel
theorem dX8_digit_22 : decode cX8_digit 22 = .ok (.iadd, 1) := by decide +kernel
theorem dX8_digit_23 : decode cX8_digit 23 = .ok (.putfield 65, 3) := by decide +kernel
theorem dX8_digit_26 : decode cX8_digit 26 = .ok (.aload_n 0, 1) := by decide +kernel
theorem dX8_digit_27 : decode cX8_digit 27 = .ok (.getfield 9, 3) := by decide +kernel
theorem dX8_digit_30 : decode cX8_digit 30 = .ok (.aload_n 0, 1) := by decide +kernel
theorem dX8_digit_31 : decode cX8_digit 31 = .ok (.getfield 65, 3) := by decide +kernel
theorem dX8_digit_34 : decode cX8_digit 34 = .ok (.iconst 1, 1) := by decide +kernel
theorem dX8_digit_35 : decode cX8_digit 35 = .ok (.isub, 1) := by decide +kernel
theorem dX8_digit_36 : decode cX8_digit 36 = .ok (.iaload, 1) := by decide +kernel
theorem dX8_digit_37 : decode cX8_digit 37 = .ok (.bipush 48, 2) := by decide +kernel
theorem dX8_digit_39 : decode cX8_digit 39 = .ok (.isub, 1) := by decide +kernel
theorem dX8_digit_40 : decode cX8_digit 40 = .ok (.ireturn, 1) := by decide +kernel
def fM_digit (u : Nat) (g : mS) : Option (Int32 × mS) :=
  (fM_ahead u g).bind fun p1 =>
  (fM_isDigit u p1.1).bind fun b2 =>
  if b2 = true then
    (some (mFs p1.2 3 ((p1.2.1 0 3) + (iz 1)))).bind fun g3 =>
    (nx_rd (mlen 1) (g3.1 1) ((g3.1 0 3) - (iz 1))).bind fun x4 =>
    some ((x4 - (iz 48)), g3)
  else
    (fM_bad u p1.2).bind fun g5 =>
    some ((iz 0), g5)
set_option maxRecDepth 4000 in
theorem jM_digit {Γ : nx_G} {M0 : nx_M} {m : Nat} (u : Nat) (g : mS)   (X : nx_X) (Z : nx_Z) : nx_J Γ X (RX8, cX8_digit, 1, (some .int), "digit", 3) Z (fun r0 : Int32 × mS => .inr (some (.int r0.1), (mW Γ M0 m r0.2))) (.inl (0, [some (.ref m)], [], (mW Γ M0 m g))) (fM_digit u g) := by
  unfold fM_digit
  refine nx_aload_n rfl dX8_digit_0 rfl ?_
  refine nx_callVr [] (fun r => .int r.1) (fun r => (mW Γ M0 m r.2)) cw_8_75 cv_X8_ahead (fun r e => cM_ahead X.2.1  e) mW_m rfl rfl (Nat.le_of_ble_eq_true rfl) (Nat.le_of_ble_eq_true rfl) dX8_digit_1 rfl (fun p1 => ?_)
  refine nx_callSr [.int p1.1] (fun r => .int (bz r)) (fun _ => (mW Γ M0 m p1.2)) cw_8_78 wd_1285 (fun r e => cM_isDigit X.2.1  e) rfl rfl (Nat.le_of_ble_eq_true rfl) (Nat.le_of_ble_eq_true rfl) dX8_digit_4 rfl (fun b2 => ?_)
  refine nx_ifz_ne (t := 16) dX8_digit_7 (by decide) rfl ?_ ?_
  · refine nx_aload_n rfl dX8_digit_16 rfl ?_
    refine nx_dup rfl dX8_digit_17 rfl ?_
    refine nx_getf fl_8_65 mW_m rfl dX8_digit_18 rfl ?_
    refine nx_iconst dX8_digit_21 rfl ?_
    refine nx_iadd dX8_digit_22 rfl ?_
    refine m_put fl_8_65 ft_8_3 rfl rfl (Nat.le_of_ble_eq_true rfl) rfl dX8_digit_23 rfl (fun g3 => ?_)
    refine nx_aload_n rfl dX8_digit_26 rfl ?_
    refine nx_getf fl_8_9 mW_m rfl dX8_digit_27 rfl ?_
    refine nx_aload_n rfl dX8_digit_30 rfl ?_
    refine nx_getf fl_8_65 mW_m rfl dX8_digit_31 rfl ?_
    refine nx_iconst dX8_digit_34 rfl ?_
    refine nx_isub dX8_digit_35 rfl ?_
    refine m_iald 1 ⟨Nat.le_of_ble_eq_true rfl, Nat.le_of_ble_eq_true rfl⟩ dX8_digit_36 rfl (fun x4 => ?_)
    refine nx_bipush (by decide +kernel) dX8_digit_37 rfl ?_
    refine nx_isub dX8_digit_39 rfl ?_
    exact nx_iret dX8_digit_40 rfl rfl
  · refine nx_aload_n rfl dX8_digit_10 rfl ?_
    refine nx_callVv [] (fun r => (mW Γ M0 m r)) cw_8_82 cv_X8_bad (fun r e => cM_bad X.2.1  e) mW_m rfl rfl (Nat.le_of_ble_eq_true rfl) (Nat.le_of_ble_eq_true rfl) dX8_digit_11 rfl (fun g5 => ?_)
    refine nx_iconst dX8_digit_14 rfl ?_
    exact nx_iret dX8_digit_15 rfl rfl
theorem cM_digit (l : Launch) {Γ : nx_G} {M0 : nx_M} {m : Nat} {u : Nat} {g : mS} {r : Int32 × mS}  (h : fM_digit u g = some r) : nx_Ct l Γ 3 yX8_digit cX8_digit 1 (some .int) [.ref m] (mW Γ M0 m g) (some (.int r.1), (mW Γ M0 m r.2)) :=
  nx_ct (out := fun r0 : Int32 × mS => (some (.int r0.1), (mW Γ M0 m r0.2))) [some (.ref m)] pn_RX8 h (Nat.le_of_ble_eq_true rfl) rfl (fun X Z _ => jM_digit  u g X Z)
theorem dX8_readStep_0 : decode cX8_readStep 0 = .ok (.aload_n 0, 1) := by decide +kernel
theorem dX8_readStep_1 : decode cX8_readStep 1 = .ok (.invokevirtual 75, 3) := by decide +kernel
theorem dX8_readStep_4 : decode cX8_readStep 4 = .ok (.invokestatic 112, 3) := by decide +kernel
theorem dX8_readStep_7 : decode cX8_readStep 7 = .ok (.istore_n 2, 1) := by decide +kernel
theorem dX8_readStep_8 : decode cX8_readStep 8 = .ok (.iload_n 2, 1) := by decide +kernel
theorem dX8_readStep_9 : decode cX8_readStep 9 = .ok (.iconst (-1), 1) := by decide +kernel
theorem dX8_readStep_10 : decode cX8_readStep 10 = .ok (.if_icmp .ne 8, 3) := by decide +kernel
theorem dX8_readStep_13 : decode cX8_readStep 13 = .ok (.aload_n 0, 1) := by decide +kernel
theorem dX8_readStep_14 : decode cX8_readStep 14 = .ok (.invokevirtual 82, 3) := by decide +kernel
theorem dX8_readStep_17 : decode cX8_readStep 17 = .ok (.return_, 1) := by decide +kernel
theorem dX8_readStep_18 : decode cX8_readStep 18 = .ok (.aload_n 0, 1) := by decide +kernel
theorem dX8_readStep_19 : decode cX8_readStep 19 = .ok (.dup, 1) := by decide +kernel
theorem dX8_readStep_20 : decode cX8_readStep 20 = .ok (.getfield 65, 3) := by decide +kernel
theorem dX8_readStep_23 : decode cX8_readStep 23 = .ok (.iconst 1, 1) := by decide +kernel
theorem dX8_readStep_24 : decode cX8_readStep 24 = .ok (.iadd, 1) := by decide +kernel
theorem dX8_readStep_25 : decode cX8_readStep 25 = .ok (.putfield 65, 3) := by decide +kernel
theorem dX8_readStep_28 : decode cX8_readStep 28 = .ok (.aload_n 0, 1) := by decide +kernel
theorem dX8_readStep_29 : decode cX8_readStep 29 = .ok (.getfield 22, 3) := by decide +kernel
theorem dX8_readStep_32 : decode cX8_readStep 32 = .ok (.iload_n 1, 1) := by decide +kernel
theorem dX8_readStep_33 : decode cX8_readStep 33 = .ok (.iload_n 2, 1) := by decide +kernel
theorem dX8_readStep_34 : decode cX8_readStep 34 = .ok (.iastore, 1) := by decide +kernel
theorem dX8_readStep_35 : decode cX8_readStep 35 = .ok (.iconst 1, 1) := by decide +kernel
theorem dX8_readStep_36 : decode cX8_readStep 36 = .ok (.istore_n 3, 1) := by decide +kernel
theorem dX8_readStep_37 : decode cX8_readStep 37 = .ok (.iload_n 3, 1) := by decide +kernel
theorem dX8_readStep_38 : decode cX8_readStep 38 = .ok (.iconst 4, 1) := by decide +kernel
theorem dX8_readStep_39 : decode cX8_readStep 39 = .ok (.if_icmp .ge 18, 3) := by decide +kernel
theorem dX8_readStep_42 : decode cX8_readStep 42 = .ok (.aload_n 0, 1) := by decide +kernel
theorem dX8_readStep_43 : decode cX8_readStep 43 = .ok (.getfield 22, 3) := by decide +kernel
theorem dX8_readStep_46 : decode cX8_readStep 46 = .ok (.iload_n 1, 1) := by decide +kernel
theorem dX8_readStep_47 : decode cX8_readStep 47 = .ok (.iload_n 3, 1) := by decide +kernel
theorem dX8_readStep_48 : decode cX8_readStep 48 = .ok (.iadd, 1) := by decide +kernel
theorem dX8_readStep_49 : decode cX8_readStep 49 = .ok (.iconst (-1), 1) := by decide +kernel
theorem dX8_readStep_50 : decode cX8_readStep 50 = .ok (.iastore, 1) := by decide +kernel
theorem dX8_readStep_51 : decode cX8_readStep 51 = .ok (.iinc 3 1, 3) := by decide +kernel
theorem dX8_readStep_54 : decode cX8_readStep 54 = .ok (.goto (-17), 3) := by decide +kernel
theorem dX8_readStep_57 : decode cX8_readStep 57 = .ok (.iconst 0, 1) := by decide +kernel
theorem dX8_readStep_58 : decode cX8_readStep 58 = .ok (.istore_n 3, 1) := by decide +kernel
theorem dX8_readStep_59 : decode cX8_readStep 59 = .ok (.iload_n 3, 1) := by decide +kernel
theorem dX8_readStep_60 : decode cX8_readStep 60 = .ok (.iload_n 2, 1) := by decide +kernel
theorem dX8_readStep_61 : decode cX8_readStep 61 = .ok (.invokestatic 116, 3) := by decide +kernel
theorem dX8_readStep_64 : decode cX8_readStep 64 = .ok (.if_icmp .ge 31, 3) := by decide +kernel
theorem dX8_readStep_67 : decode cX8_readStep 67 = .ok (.aload_n 0, 1) := by decide +kernel
theorem dX8_readStep_68 : decode cX8_readStep 68 = .ok (.getfield 72, 3) := by decide +kernel
theorem dX8_readStep_71 : decode cX8_readStep 71 = .ok (.iconst (-1), 1) := by decide +kernel
theorem dX8_readStep_72 : decode cX8_readStep 72 = .ok (.if_icmp .ne 23, 3) := by decide +kernel
theorem dX8_readStep_75 : decode cX8_readStep 75 = .ok (.aload_n 0, 1) := by decide +kernel
theorem dX8_readStep_76 : decode cX8_readStep 76 = .ok (.getfield 22, 3) := by decide +kernel
theorem dX8_readStep_79 : decode cX8_readStep 79 = .ok (.iload_n 1, 1) := by decide +kernel
theorem dX8_readStep_80 : decode cX8_readStep 80 = .ok (.iconst 1, 1) := by decide +kernel
theorem dX8_readStep_81 : decode cX8_readStep 81 = .ok (.iadd, 1) := by decide +kernel
theorem dX8_readStep_82 : decode cX8_readStep 82 = .ok (.iload_n 3, 1) := by decide +kernel
theorem dX8_readStep_83 : decode cX8_readStep 83 = .ok (.iadd, 1) := by decide +kernel
theorem dX8_readStep_84 : decode cX8_readStep 84 = .ok (.aload_n 0, 1) := by decide +kernel
theorem dX8_readStep_85 : decode cX8_readStep 85 = .ok (.invokevirtual 119, 3) := by decide +kernel
theorem dX8_readStep_88 : decode cX8_readStep 88 = .ok (.iastore, 1) := by decide +kernel
theorem dX8_readStep_89 : decode cX8_readStep 89 = .ok (.iinc 3 1, 3) := by decide +kernel
theorem dX8_readStep_92 : decode cX8_readStep 92 = .ok (.goto (-33), 3) := by decide +kernel
theorem dX8_readStep_95 : decode cX8_readStep 95 = .ok (.iload_n 2, 1) := by decide +kernel
theorem dX8_readStep_96 : decode cX8_readStep 96 = .ok (.iconst 2, 1) := by decide +kernel
theorem dX8_readStep_97 : decode cX8_readStep 97 = .ok (.if_icmp .ne 11, 3) := by decide +kernel
theorem dX8_readStep_100 : decode cX8_readStep 100 = .ok (.aload_n 0, 1) := by decide +kernel
theorem dX8_readStep_101 : decode cX8_readStep 101 = .ok (.getfield 72, 3) := by decide +kernel
theorem dX8_readStep_104 : decode cX8_readStep 104 = .ok (.iconst (-1), 1) := by decide +kernel
theorem dX8_readStep_105 : decode cX8_readStep 105 = .ok (.if_icmp .eq 4, 3) := by decide +kernel
theorem dX8_readStep_108 : decode cX8_readStep 108 = .ok (.return_, 1) := by decide +kernel
theorem dX8_readStep_109 : decode cX8_readStep 109 = .ok (.aload_n 0, 1) := by decide +kernel
theorem dX8_readStep_110 : decode cX8_readStep 110 = .ok (.invokevirtual 75, 3) := by decide +kernel
theorem dX8_readStep_113 : decode cX8_readStep 113 = .ok (.bipush 58, 2) := by decide +kernel
theorem dX8_readStep_115 : decode cX8_readStep 115 = .ok (.if_icmp .eq 8, 3) := by decide +kernel
theorem dX8_readStep_118 : decode cX8_readStep 118 = .ok (.aload_n 0, 1) := by decide +kernel
theorem dX8_readStep_119 : decode cX8_readStep 119 = .ok (.invokevirtual 82, 3) := by decide +kernel
theorem dX8_readStep_122 : decode cX8_readStep 122 = .ok (.return_, 1) := by decide +kernel
theorem dX8_readStep_123 : decode cX8_readStep 123 = .ok (.aload_n 0, 1) := by decide +kernel
theorem dX8_readStep_124 : decode cX8_readStep 124 = .ok (.dup, 1) := by decide +kernel
theorem dX8_readStep_125 : decode cX8_readStep 125 = .ok (.getfield 65, 3) := by decide +kernel
theorem dX8_readStep_128 : decode cX8_readStep 128 = .ok (.iconst 1, 1) := by decide +kernel
theorem dX8_readStep_129 : decode cX8_readStep 129 = .ok (.iadd, 1) := by decide +kernel
theorem dX8_readStep_130 : decode cX8_readStep 130 = .ok (.putfield 65, 3) := by decide +kernel
theorem dX8_readStep_133 : decode cX8_readStep 133 = .ok (.aload_n 0, 1) := by decide +kernel
theorem dX8_readStep_134 : decode cX8_readStep 134 = .ok (.getfield 22, 3) := by decide +kernel
theorem dX8_readStep_137 : decode cX8_readStep 137 = .ok (.iload_n 1, 1) := by decide +kernel
theorem dX8_readStep_138 : decode cX8_readStep 138 = .ok (.iconst 3, 1) := by decide +kernel
theorem dX8_readStep_139 : decode cX8_readStep 139 = .ok (.iadd, 1) := by decide +kernel
theorem dX8_readStep_140 : decode cX8_readStep 140 = .ok (.aload_n 0, 1) := by decide +kernel
theorem dX8_readStep_141 : decode cX8_readStep 141 = .ok (.iconst 0, 1) := by decide +kernel
theorem dX8_readStep_142 : decode cX8_readStep 142 = .ok (.bipush 99, 2) := by decide +kernel
theorem dX8_readStep_144 : decode cX8_readStep 144 = .ok (.invokevirtual 102, 3) := by decide +kernel
theorem dX8_readStep_147 : decode cX8_readStep 147 = .ok (.iastore, 1) := by decide +kernel
theorem dX8_readStep_148 : decode cX8_readStep 148 = .ok (.return_, 1) := by decide +kernel
def fM_readStep_37 (a1 : Int32) (s5 : Int32 × mS) : Option ((Int32 × mS) ⊕ (mS)) :=
  if (iz 4) ≤ s5.1 then
    some (.inr s5.2)
  else
    (mWr s5.2 5 (a1 + s5.1) (iz (-1))).bind fun g6 =>
    some (.inl ((s5.1 + iz 1), g6))
def fM_readStep_59 (u : Nat) (a1 : Int32) (x2 : Int32) (s8 : Int32 × mS) : Option ((Int32 × mS) ⊕ (mS)) :=
  (fM_digitsOf u x2).bind fun x9 =>
  if x9 ≤ s8.1 then
    some (.inr s8.2)
  else
    if (s8.2.1 0 4) = (iz (-1)) then
      (fM_digit u s8.2).bind fun p10 =>
      (mWr p10.2 5 ((a1 + (iz 1)) + s8.1) p10.1).bind fun g11 =>
      some (.inl ((s8.1 + iz 1), g11))
    else
      some (.inr s8.2)
def fM_readStep (u : Nat) (g : mS) (a1 : Int32) : Option (mS) :=
  (fM_ahead u g).bind fun p1 =>
  (fM_sortOf u p1.1).bind fun x2 =>
  if x2 = (iz (-1)) then
    (fM_bad u p1.2).bind fun g18 =>
    some g18
  else
    (some (mFs p1.2 3 ((p1.2.1 0 3) + (iz 1)))).bind fun g3 =>
    (mWr g3 5 a1 x2).bind fun g4 =>
    (nx_iter u (fM_readStep_37 a1) ((iz 1), g4)).bind fun e7 =>
    (nx_iter u (fM_readStep_59 u a1 x2) ((iz 0), e7)).bind fun e12 =>
    if x2 = (iz 2) then
      if (e12.1 0 4) = (iz (-1)) then
        (fM_ahead u e12).bind fun p13 =>
        if p13.1 = (iz 58) then
          (some (mFs p13.2 3 ((p13.2.1 0 3) + (iz 1)))).bind fun g14 =>
          (fM_number u g14 (iz 0) (iz 99)).bind fun p15 =>
          (mWr p15.2 5 (a1 + (iz 3)) p15.1).bind fun g16 =>
          some g16
        else
          (fM_bad u p13.2).bind fun g17 =>
          some g17
      else
        some e12
    else
      some e12
set_option maxRecDepth 4000 in
theorem jM_readStep_37 {Γ : nx_G} {M0 : nx_M} {m : Nat} (a1 : Int32) (x2 : Int32)   (X : nx_X) (Z : nx_Z) (s5 : Int32 × mS) : nx_J Γ X (RX8, cX8_readStep, 4, none, "readStep", 4) Z (Sum.elim (fun s5 : Int32 × mS => .inl (37, [some (.ref m), some (.int a1), some (.int x2), some (.int s5.1)], [], (mW Γ M0 m s5.2))) (fun e7 : mS => .inl (57, [some (.ref m), some (.int a1), some (.int x2), none], [], (mW Γ M0 m e7)))) (.inl (37, [some (.ref m), some (.int a1), some (.int x2), some (.int s5.1)], [], (mW Γ M0 m s5.2))) (fM_readStep_37 a1 s5) := by
  unfold fM_readStep_37
  refine nx_iload_n rfl dX8_readStep_37 rfl ?_
  refine nx_iconst dX8_readStep_38 rfl ?_
  refine nx_icmp_ge (t := 57) dX8_readStep_39 (by decide) rfl ?_ ?_
  · refine nx_weak (ls' := [some (.ref m), some (.int a1), some (.int x2), none]) (nx_wk_s (nx_wk_s (nx_wk_s (nx_wk_n nx_wk_e)))) ?_
    obtain ⟨_, _⟩ := s5
    exact nx_leaf rfl
  · refine nx_aload_n rfl dX8_readStep_42 rfl ?_
    refine nx_getf fl_8_22 mW_m rfl dX8_readStep_43 rfl ?_
    refine nx_iload_n rfl dX8_readStep_46 rfl ?_
    refine nx_iload_n rfl dX8_readStep_47 rfl ?_
    refine nx_iadd dX8_readStep_48 rfl ?_
    refine nx_iconst dX8_readStep_49 rfl ?_
    refine m_iast 5 ⟨Nat.le_of_ble_eq_true rfl, Nat.le_of_ble_eq_true rfl⟩ dX8_readStep_50 rfl (fun g6 => ?_)
    refine nx_iinc [some (.ref m), some (.int a1), some (.int x2), some (.int (s5.1 + iz 1))] dX8_readStep_51 rfl rfl (Nat.le_of_ble_eq_true rfl) rfl rfl ?_
    refine nx_goto (q := 37) dX8_readStep_54 (by decide) ?_
    obtain ⟨_, _⟩ := s5
    exact nx_leaf rfl
set_option maxRecDepth 4000 in
theorem jM_readStep_59 {Γ : nx_G} {M0 : nx_M} {m : Nat} (u : Nat) (a1 : Int32) (x2 : Int32)   (X : nx_X) (Z : nx_Z) (s8 : Int32 × mS) : nx_J Γ X (RX8, cX8_readStep, 4, none, "readStep", 4) Z (Sum.elim (fun s8 : Int32 × mS => .inl (59, [some (.ref m), some (.int a1), some (.int x2), some (.int s8.1)], [], (mW Γ M0 m s8.2))) (fun e12 : mS => .inl (95, [some (.ref m), some (.int a1), some (.int x2), none], [], (mW Γ M0 m e12)))) (.inl (59, [some (.ref m), some (.int a1), some (.int x2), some (.int s8.1)], [], (mW Γ M0 m s8.2))) (fM_readStep_59 u a1 x2 s8) := by
  unfold fM_readStep_59
  refine nx_iload_n rfl dX8_readStep_59 rfl ?_
  refine nx_iload_n rfl dX8_readStep_60 rfl ?_
  refine nx_callSr [.int x2] (fun r => .int r) (fun _ => (mW Γ M0 m s8.2)) cw_8_116 wd_1303 (fun r e => cM_digitsOf X.2.1  e) rfl rfl (Nat.le_of_ble_eq_true rfl) (Nat.le_of_ble_eq_true rfl) dX8_readStep_61 rfl (fun x9 => ?_)
  refine nx_icmp_ge (t := 95) dX8_readStep_64 (by decide) rfl ?_ ?_
  · refine nx_weak (ls' := [some (.ref m), some (.int a1), some (.int x2), none]) (nx_wk_s (nx_wk_s (nx_wk_s (nx_wk_n nx_wk_e)))) ?_
    obtain ⟨_, _⟩ := s8
    exact nx_leaf rfl
  · refine nx_aload_n rfl dX8_readStep_67 rfl ?_
    refine nx_getf fl_8_72 mW_m rfl dX8_readStep_68 rfl ?_
    refine nx_iconst dX8_readStep_71 rfl ?_
    refine nx_icmp_ne (t := 95) dX8_readStep_72 (by decide) rfl ?_ ?_
    · refine nx_weak (ls' := [some (.ref m), some (.int a1), some (.int x2), none]) (nx_wk_s (nx_wk_s (nx_wk_s (nx_wk_n nx_wk_e)))) ?_
      obtain ⟨_, _⟩ := s8
      exact nx_leaf rfl
    · refine nx_aload_n rfl dX8_readStep_75 rfl ?_
      refine nx_getf fl_8_22 mW_m rfl dX8_readStep_76 rfl ?_
      refine nx_iload_n rfl dX8_readStep_79 rfl ?_
      refine nx_iconst dX8_readStep_80 rfl ?_
      refine nx_iadd dX8_readStep_81 rfl ?_
      refine nx_iload_n rfl dX8_readStep_82 rfl ?_
      refine nx_iadd dX8_readStep_83 rfl ?_
      refine nx_aload_n rfl dX8_readStep_84 rfl ?_
      refine nx_callVr [] (fun r => .int r.1) (fun r => (mW Γ M0 m r.2)) cw_8_119 cv_X8_digit (fun r e => cM_digit X.2.1  e) mW_m rfl rfl (Nat.le_of_ble_eq_true rfl) (Nat.le_of_ble_eq_true rfl) dX8_readStep_85 rfl (fun p10 => ?_)
      refine m_iast 5 ⟨Nat.le_of_ble_eq_true rfl, Nat.le_of_ble_eq_true rfl⟩ dX8_readStep_88 rfl (fun g11 => ?_)
      refine nx_iinc [some (.ref m), some (.int a1), some (.int x2), some (.int (s8.1 + iz 1))] dX8_readStep_89 rfl rfl (Nat.le_of_ble_eq_true rfl) rfl rfl ?_
      refine nx_goto (q := 59) dX8_readStep_92 (by decide) ?_
      obtain ⟨_, _⟩ := s8
      exact nx_leaf rfl
set_option maxRecDepth 4000 in
theorem jM_readStep {Γ : nx_G} {M0 : nx_M} {m : Nat} (u : Nat) (g : mS) (a1 : Int32)   (X : nx_X) (Z : nx_Z) : nx_J Γ X (RX8, cX8_readStep, 4, none, "readStep", 4) Z (fun r0 : mS => .inr (none, (mW Γ M0 m r0))) (.inl (0, [some (.ref m), some (.int a1), none, none], [], (mW Γ M0 m g))) (fM_readStep u g a1) := by
  unfold fM_readStep
  refine nx_aload_n rfl dX8_readStep_0 rfl ?_
  refine nx_callVr [] (fun r => .int r.1) (fun r => (mW Γ M0 m r.2)) cw_8_75 cv_X8_ahead (fun r e => cM_ahead X.2.1  e) mW_m rfl rfl (Nat.le_of_ble_eq_true rfl) (Nat.le_of_ble_eq_true rfl) dX8_readStep_1 rfl (fun p1 => ?_)
  refine nx_callSr [.int p1.1] (fun r => .int r) (fun _ => (mW Γ M0 m p1.2)) cw_8_112 wd_1300 (fun r e => cM_sortOf X.2.1  e) rfl rfl (Nat.le_of_ble_eq_true rfl) (Nat.le_of_ble_eq_true rfl) dX8_readStep_4 rfl (fun x2 => ?_)
  refine nx_istore_n [some (.ref m), some (.int a1), some (.int x2), none] dX8_readStep_7 rfl (Nat.le_of_ble_eq_true rfl) rfl rfl ?_
  refine nx_iload_n rfl dX8_readStep_8 rfl ?_
  refine nx_iconst dX8_readStep_9 rfl ?_
  refine nx_icmp_ne (t := 18) dX8_readStep_10 (by decide) rfl ?_ ?_
  · refine nx_aload_n rfl dX8_readStep_18 rfl ?_
    refine nx_dup rfl dX8_readStep_19 rfl ?_
    refine nx_getf fl_8_65 mW_m rfl dX8_readStep_20 rfl ?_
    refine nx_iconst dX8_readStep_23 rfl ?_
    refine nx_iadd dX8_readStep_24 rfl ?_
    refine m_put fl_8_65 ft_8_3 rfl rfl (Nat.le_of_ble_eq_true rfl) rfl dX8_readStep_25 rfl (fun g3 => ?_)
    refine nx_aload_n rfl dX8_readStep_28 rfl ?_
    refine nx_getf fl_8_22 mW_m rfl dX8_readStep_29 rfl ?_
    refine nx_iload_n rfl dX8_readStep_32 rfl ?_
    refine nx_iload_n rfl dX8_readStep_33 rfl ?_
    refine m_iast 5 ⟨Nat.le_of_ble_eq_true rfl, Nat.le_of_ble_eq_true rfl⟩ dX8_readStep_34 rfl (fun g4 => ?_)
    refine nx_iconst dX8_readStep_35 rfl ?_
    refine nx_istore_n [some (.ref m), some (.int a1), some (.int x2), some (.int (iz 1))] dX8_readStep_36 rfl (Nat.le_of_ble_eq_true rfl) rfl rfl ?_
    refine nx_seq (C1 := fun e7 : mS => .inl (57, [some (.ref m), some (.int a1), some (.int x2), none], [], (mW Γ M0 m e7))) (nx_loop (C1 := fun s5 : Int32 × mS => .inl (37, [some (.ref m), some (.int a1), some (.int x2), some (.int s5.1)], [], (mW Γ M0 m s5.2))) (fun s5 => jM_readStep_37  a1 x2 X Z s5) ((iz 1), g4)) (fun e7 => ?_)
    refine nx_iconst dX8_readStep_57 rfl ?_
    refine nx_istore_n [some (.ref m), some (.int a1), some (.int x2), some (.int (iz 0))] dX8_readStep_58 rfl (Nat.le_of_ble_eq_true rfl) rfl rfl ?_
    refine nx_seq (C1 := fun e12 : mS => .inl (95, [some (.ref m), some (.int a1), some (.int x2), none], [], (mW Γ M0 m e12))) (nx_loop (C1 := fun s8 : Int32 × mS => .inl (59, [some (.ref m), some (.int a1), some (.int x2), some (.int s8.1)], [], (mW Γ M0 m s8.2))) (fun s8 => jM_readStep_59  u a1 x2 X Z s8) ((iz 0), e7)) (fun e12 => ?_)
    refine nx_iload_n rfl dX8_readStep_95 rfl ?_
    refine nx_iconst dX8_readStep_96 rfl ?_
    refine nx_icmp_ne (t := 108) dX8_readStep_97 (by decide) rfl ?_ ?_
    · exact nx_vret dX8_readStep_108 rfl rfl
    · refine nx_aload_n rfl dX8_readStep_100 rfl ?_
      refine nx_getf fl_8_72 mW_m rfl dX8_readStep_101 rfl ?_
      refine nx_iconst dX8_readStep_104 rfl ?_
      refine nx_icmp_eq (t := 109) dX8_readStep_105 (by decide) rfl ?_ ?_
      · refine nx_aload_n rfl dX8_readStep_109 rfl ?_
        refine nx_callVr [] (fun r => .int r.1) (fun r => (mW Γ M0 m r.2)) cw_8_75 cv_X8_ahead (fun r e => cM_ahead X.2.1  e) mW_m rfl rfl (Nat.le_of_ble_eq_true rfl) (Nat.le_of_ble_eq_true rfl) dX8_readStep_110 rfl (fun p13 => ?_)
        refine nx_bipush (by decide +kernel) dX8_readStep_113 rfl ?_
        refine nx_icmp_eq (t := 123) dX8_readStep_115 (by decide) rfl ?_ ?_
        · refine nx_aload_n rfl dX8_readStep_123 rfl ?_
          refine nx_dup rfl dX8_readStep_124 rfl ?_
          refine nx_getf fl_8_65 mW_m rfl dX8_readStep_125 rfl ?_
          refine nx_iconst dX8_readStep_128 rfl ?_
          refine nx_iadd dX8_readStep_129 rfl ?_
          refine m_put fl_8_65 ft_8_3 rfl rfl (Nat.le_of_ble_eq_true rfl) rfl dX8_readStep_130 rfl (fun g14 => ?_)
          refine nx_aload_n rfl dX8_readStep_133 rfl ?_
          refine nx_getf fl_8_22 mW_m rfl dX8_readStep_134 rfl ?_
          refine nx_iload_n rfl dX8_readStep_137 rfl ?_
          refine nx_iconst dX8_readStep_138 rfl ?_
          refine nx_iadd dX8_readStep_139 rfl ?_
          refine nx_aload_n rfl dX8_readStep_140 rfl ?_
          refine nx_iconst dX8_readStep_141 rfl ?_
          refine nx_bipush (by decide +kernel) dX8_readStep_142 rfl ?_
          refine nx_callVr [.int (iz 0), .int (iz 99)] (fun r => .int r.1) (fun r => (mW Γ M0 m r.2)) cw_8_102 cv_X8_number (fun r e => cM_number X.2.1  e) mW_m rfl rfl (Nat.le_of_ble_eq_true rfl) (Nat.le_of_ble_eq_true rfl) dX8_readStep_144 rfl (fun p15 => ?_)
          refine m_iast 5 ⟨Nat.le_of_ble_eq_true rfl, Nat.le_of_ble_eq_true rfl⟩ dX8_readStep_147 rfl (fun g16 => ?_)
          exact nx_vret dX8_readStep_148 rfl rfl
        · refine nx_aload_n rfl dX8_readStep_118 rfl ?_
          refine nx_callVv [] (fun r => (mW Γ M0 m r)) cw_8_82 cv_X8_bad (fun r e => cM_bad X.2.1  e) mW_m rfl rfl (Nat.le_of_ble_eq_true rfl) (Nat.le_of_ble_eq_true rfl) dX8_readStep_119 rfl (fun g17 => ?_)
          exact nx_vret dX8_readStep_122 rfl rfl
      · exact nx_vret dX8_readStep_108 rfl rfl
  · refine nx_aload_n rfl dX8_readStep_13 rfl ?_
    refine nx_callVv [] (fun r => (mW Γ M0 m r)) cw_8_82 cv_X8_bad (fun r e => cM_bad X.2.1  e) mW_m rfl rfl (Nat.le_of_ble_eq_true rfl) (Nat.le_of_ble_eq_true rfl) dX8_readStep_14 rfl (fun g18 => ?_)
    exact nx_vret dX8_readStep_17 rfl rfl
theorem cM_readStep (l : Launch) {Γ : nx_G} {M0 : nx_M} {m : Nat} {u : Nat} {g : mS} {a1 : Int32} {r : mS}  (h : fM_readStep u g a1 = some r) : nx_Ct l Γ 4 yX8_readStep cX8_readStep 4 none [.ref m, .int a1] (mW Γ M0 m g) (none, (mW Γ M0 m r)) :=
  nx_ct (out := fun r0 : mS => (none, (mW Γ M0 m r0))) [some (.ref m), some (.int a1), none, none] pn_RX8 h (Nat.le_of_ble_eq_true rfl) rfl (fun X Z _ => jM_readStep  u g a1 X Z)
theorem dX8_readScript_0 : decode cX8_readScript 0 = .ok (.aload_n 0, 1) := by decide +kernel
theorem dX8_readScript_1 : decode cX8_readScript 1 = .ok (.iconst 0, 1) := by decide +kernel
theorem dX8_readScript_2 : decode cX8_readScript 2 = .ok (.putfield 65, 3) := by decide +kernel
theorem dX8_readScript_5 : decode cX8_readScript 5 = .ok (.aload_n 0, 1) := by decide +kernel
theorem dX8_readScript_6 : decode cX8_readScript 6 = .ok (.iconst (-1), 1) := by decide +kernel
theorem dX8_readScript_7 : decode cX8_readScript 7 = .ok (.putfield 72, 3) := by decide +kernel
theorem dX8_readScript_10 : decode cX8_readScript 10 = .ok (.aload_n 0, 1) := by decide +kernel
theorem dX8_readScript_11 : decode cX8_readScript 11 = .ok (.getfield 25, 3) := by decide +kernel
theorem dX8_readScript_14 : decode cX8_readScript 14 = .ok (.iload_n 1, 1) := by decide +kernel
theorem dX8_readScript_15 : decode cX8_readScript 15 = .ok (.iconst 0, 1) := by decide +kernel
theorem dX8_readScript_16 : decode cX8_readScript 16 = .ok (.iastore, 1) := by decide +kernel
theorem dX8_readScript_17 : decode cX8_readScript 17 = .ok (.iconst 1, 1) := by decide +kernel
theorem dX8_readScript_18 : decode cX8_readScript 18 = .ok (.istore_n 2, 1) := by decide +kernel
theorem dX8_readScript_19 : decode cX8_readScript 19 = .ok (.iload_n 2, 1) := by decide +kernel
theorem dX8_readScript_20 : decode cX8_readScript 20 = .ok (.ifCond .eq 85, 3) := by decide +kernel
theorem dX8_readScript_23 : decode cX8_readScript 23 = .ok (.aload_n 0, 1) := by decide +kernel
theorem dX8_readScript_24 : decode cX8_readScript 24 = .ok (.iconst 4, 1) := by decide +kernel
theorem dX8_readScript_25 : decode cX8_readScript 25 = .ok (.bipush 16, 2) := by decide +kernel
theorem dX8_readScript_27 : decode cX8_readScript 27 = .ok (.iload_n 1, 1) := by decide +kernel
theorem dX8_readScript_28 : decode cX8_readScript 28 = .ok (.imul, 1) := by decide +kernel
theorem dX8_readScript_29 : decode cX8_readScript 29 = .ok (.aload_n 0, 1) := by decide +kernel
theorem dX8_readScript_30 : decode cX8_readScript 30 = .ok (.getfield 25, 3) := by decide +kernel
theorem dX8_readScript_33 : decode cX8_readScript 33 = .ok (.iload_n 1, 1) := by decide +kernel
theorem dX8_readScript_34 : decode cX8_readScript 34 = .ok (.iaload, 1) := by decide +kernel
theorem dX8_readScript_35 : decode cX8_readScript 35 = .ok (.iadd, 1) := by decide +kernel
theorem dX8_readScript_36 : decode cX8_readScript 36 = .ok (.imul, 1) := by decide +kernel
theorem dX8_readScript_37 : decode cX8_readScript 37 = .ok (.invokevirtual 122, 3) := by decide +kernel
theorem dX8_readScript_40 : decode cX8_readScript 40 = .ok (.aload_n 0, 1) := by decide +kernel
theorem dX8_readScript_41 : decode cX8_readScript 41 = .ok (.getfield 25, 3) := by decide +kernel
theorem dX8_readScript_44 : decode cX8_readScript 44 = .ok (.iload_n 1, 1) := by decide +kernel
theorem dX8_readScript_45 : decode cX8_readScript 45 = .ok (.dup2, 1) := by decide +kernel
theorem dX8_readScript_46 : decode cX8_readScript 46 = .ok (.iaload, 1) := by decide +kernel
theorem dX8_readScript_47 : decode cX8_readScript 47 = .ok (.iconst 1, 1) := by decide +kernel
theorem dX8_readScript_48 : decode cX8_readScript 48 = .ok (.iadd, 1) := by decide +kernel
theorem dX8_readScript_49 : decode cX8_readScript 49 = .ok (.iastore, 1) := by decide +kernel
theorem dX8_readScript_50 : decode cX8_readScript 50 = .ok (.aload_n 0, 1) := by decide +kernel
theorem dX8_readScript_51 : decode cX8_readScript 51 = .ok (.getfield 72, 3) := by decide +kernel
theorem dX8_readScript_54 : decode cX8_readScript 54 = .ok (.iconst (-1), 1) := by decide +kernel
theorem dX8_readScript_55 : decode cX8_readScript 55 = .ok (.if_icmp .ne 27, 3) := by decide +kernel
theorem dX8_readScript_58 : decode cX8_readScript 58 = .ok (.aload_n 0, 1) := by decide +kernel
theorem dX8_readScript_59 : decode cX8_readScript 59 = .ok (.invokevirtual 75, 3) := by decide +kernel
theorem dX8_readScript_62 : decode cX8_readScript 62 = .ok (.bipush 59, 2) := by decide +kernel
theorem dX8_readScript_64 : decode cX8_readScript 64 = .ok (.if_icmp .ne 18, 3) := by decide +kernel
theorem dX8_readScript_67 : decode cX8_readScript 67 = .ok (.aload_n 0, 1) := by decide +kernel
theorem dX8_readScript_68 : decode cX8_readScript 68 = .ok (.getfield 25, 3) := by decide +kernel
theorem dX8_readScript_71 : decode cX8_readScript 71 = .ok (.iload_n 1, 1) := by decide +kernel
theorem dX8_readScript_72 : decode cX8_readScript 72 = .ok (.iaload, 1) := by decide +kernel
theorem dX8_readScript_73 : decode cX8_readScript 73 = .ok (.bipush 16, 2) := by decide +kernel
theorem dX8_readScript_75 : decode cX8_readScript 75 = .ok (.if_icmp .ge 7, 3) := by decide +kernel
theorem dX8_readScript_78 : decode cX8_readScript 78 = .ok (.iconst 1, 1) := by decide +kernel
theorem dX8_readScript_79 : decode cX8_readScript 79 = .ok (.goto 4, 3) := by decide +kernel
theorem dX8_readScript_82 : decode cX8_readScript 82 = .ok (.iconst 0, 1) := by decide +kernel
theorem dX8_readScript_83 : decode cX8_readScript 83 = .ok (.istore_n 2, 1) := by decide +kernel
theorem dX8_readScript_84 : decode cX8_readScript 84 = .ok (.aload_n 0, 1) := by decide +kernel
theorem dX8_readScript_85 : decode cX8_readScript 85 = .ok (.dup, 1) := by decide +kernel
theorem dX8_readScript_86 : decode cX8_readScript 86 = .ok (.getfield 65, 3) := by decide +kernel
theorem dX8_readScript_89 : decode cX8_readScript 89 = .ok (.iload_n 2, 1) := by decide +kernel
theorem dX8_readScript_90 : decode cX8_readScript 90 = .ok (.ifCond .eq 7, 3) := by decide +kernel
theorem dX8_readScript_93 : decode cX8_readScript 93 = .ok (.iconst 1, 1) := by decide +kernel
theorem dX8_readScript_94 : decode cX8_readScript 94 = .ok (.goto 4, 3) := by decide +kernel
theorem dX8_readScript_97 : decode cX8_readScript 97 = .ok (.iconst 0, 1) := by decide +kernel
theorem dX8_readScript_98 : decode cX8_readScript 98 = .ok (.iadd, 1) := by decide +kernel
theorem dX8_readScript_99 : decode cX8_readScript 99 = .ok (.putfield 65, 3) := by decide +kernel
theorem dX8_readScript_102 : decode cX8_readScript 102 = .ok (.goto (-83), 3) := by decide +kernel
theorem dX8_readScript_105 : decode cX8_readScript 105 = .ok (.aload_n 0, 1) := by decide +kernel
theorem dX8_readScript_106 : decode cX8_readScript 106 = .ok (.getfield 72, 3) := by decide +kernel
theorem dX8_readScript_109 : decode cX8_readScript 109 = .ok (.iconst (-1), 1) := by decide +kernel
theorem dX8_readScript_110 : decode cX8_readScript 110 = .ok (.if_icmp .ne 15, 3) := by decide +kernel
theorem dX8_readScript_113 : decode cX8_readScript 113 = .ok (.aload_n 0, 1) := by decide +kernel
theorem dX8_readScript_114 : decode cX8_readScript 114 = .ok (.invokevirtual 75, 3) := by decide +kernel
theorem dX8_readScript_117 : decode cX8_readScript 117 = .ok (.iconst (-1), 1) := by decide +kernel
theorem dX8_readScript_118 : decode cX8_readScript 118 = .ok (.if_icmp .eq 7, 3) := by decide +kernel
theorem dX8_readScript_121 : decode cX8_readScript 121 = .ok (.aload_n 0, 1) := by decide +kernel
theorem dX8_readScript_122 : decode cX8_readScript 122 = .ok (.invokevirtual 82, 3) := by decide +kernel
theorem dX8_readScript_125 : decode cX8_readScript 125 = .ok (.aload_n 0, 1) := by decide +kernel
theorem dX8_readScript_126 : decode cX8_readScript 126 = .ok (.getfield 72, 3) := by decide +kernel
theorem dX8_readScript_129 : decode cX8_readScript 129 = .ok (.ireturn, 1) := by decide +kernel
def fM_readScript_19 (u : Nat) (a1 : Int32) (s4 : Int32 × mS) : Option ((Int32 × mS) ⊕ (mS)) :=
  if s4.1 = iz 0 then
    some (.inr s4.2)
  else
    (nx_rd (mlen 6) (s4.2.1 6) a1).bind fun x5 =>
    (fM_readStep u s4.2 ((iz 4) * (((iz 16) * a1) + x5))).bind fun g6 =>
    (nx_rd (mlen 6) (g6.1 6) a1).bind fun x7 =>
    (mWr g6 6 a1 (x7 + (iz 1))).bind fun g8 =>
    (if (g8.1 0 4) = (iz (-1)) then
       (fM_ahead u g8).bind fun p9 =>
       if p9.1 = (iz 59) then
         (nx_rd (mlen 6) (p9.2.1 6) a1).bind fun x10 =>
         if (iz 16) ≤ x10 then
           some ((iz 0), p9.2)
         else
           some ((iz 1), p9.2)
       else
         some ((iz 0), p9.2)
     else
       some ((iz 0), g8) : Option (Int32 × mS)).bind fun s11 =>
    (if s11.1 = iz 0 then
       some (iz 0)
     else
       some (iz 1) : Option (Int32)).bind fun s12 =>
    (some (mFs s11.2 3 ((s11.2.1 0 3) + s12))).bind fun g13 =>
    some (.inl (s11.1, g13))
def fM_readScript (u : Nat) (g : mS) (a1 : Int32) : Option (Int32 × mS) :=
  (some (mFs g 3 (iz 0))).bind fun g1 =>
  (some (mFs g1 4 (iz (-1)))).bind fun g2 =>
  (mWr g2 6 a1 (iz 0)).bind fun g3 =>
  (nx_iter u (fM_readScript_19 u a1) ((iz 1), g3)).bind fun e14 =>
  (if (e14.1 0 4) = (iz (-1)) then
     (fM_ahead u e14).bind fun p15 =>
     if p15.1 = (iz (-1)) then
       some p15.2
     else
       (fM_bad u p15.2).bind fun g16 =>
       some g16
   else
     some e14 : Option (mS)).bind fun s17 =>
  some ((s17.1 0 4), s17)
set_option maxRecDepth 4000 in
theorem jM_readScript_19 {Γ : nx_G} {M0 : nx_M} {m : Nat} (u : Nat) (a1 : Int32)   (X : nx_X) (Z : nx_Z) (s4 : Int32 × mS) : nx_J Γ X (RX8, cX8_readScript, 3, (some .int), "readScript", 5) Z (Sum.elim (fun s4 : Int32 × mS => .inl (19, [some (.ref m), some (.int a1), some (.int s4.1)], [], (mW Γ M0 m s4.2))) (fun e14 : mS => .inl (105, [some (.ref m), some (.int a1), none], [], (mW Γ M0 m e14)))) (.inl (19, [some (.ref m), some (.int a1), some (.int s4.1)], [], (mW Γ M0 m s4.2))) (fM_readScript_19 u a1 s4) := by
  unfold fM_readScript_19
  refine nx_iload_n rfl dX8_readScript_19 rfl ?_
  refine nx_if_eq (t := 105) dX8_readScript_20 (by decide) rfl ?_ ?_
  · refine nx_weak (ls' := [some (.ref m), some (.int a1), none]) (nx_wk_s (nx_wk_s (nx_wk_n nx_wk_e))) ?_
    obtain ⟨_, _⟩ := s4
    exact nx_leaf rfl
  · refine nx_aload_n rfl dX8_readScript_23 rfl ?_
    refine nx_iconst dX8_readScript_24 rfl ?_
    refine nx_bipush (by decide +kernel) dX8_readScript_25 rfl ?_
    refine nx_iload_n rfl dX8_readScript_27 rfl ?_
    refine nx_imul dX8_readScript_28 rfl ?_
    refine nx_aload_n rfl dX8_readScript_29 rfl ?_
    refine nx_getf fl_8_25 mW_m rfl dX8_readScript_30 rfl ?_
    refine nx_iload_n rfl dX8_readScript_33 rfl ?_
    refine m_iald 6 ⟨Nat.le_of_ble_eq_true rfl, Nat.le_of_ble_eq_true rfl⟩ dX8_readScript_34 rfl (fun x5 => ?_)
    refine nx_iadd dX8_readScript_35 rfl ?_
    refine nx_imul dX8_readScript_36 rfl ?_
    refine nx_callVv [.int ((iz 4) * (((iz 16) * a1) + x5))] (fun r => (mW Γ M0 m r)) cw_8_122 cv_X8_readStep (fun r e => cM_readStep X.2.1  e) mW_m rfl rfl (Nat.le_of_ble_eq_true rfl) (Nat.le_of_ble_eq_true rfl) dX8_readScript_37 rfl (fun g6 => ?_)
    refine nx_aload_n rfl dX8_readScript_40 rfl ?_
    refine nx_getf fl_8_25 mW_m rfl dX8_readScript_41 rfl ?_
    refine nx_iload_n rfl dX8_readScript_44 rfl ?_
    refine nx_dup2 rfl rfl dX8_readScript_45 rfl ?_
    refine m_iald 6 ⟨Nat.le_of_ble_eq_true rfl, Nat.le_of_ble_eq_true rfl⟩ dX8_readScript_46 rfl (fun x7 => ?_)
    refine nx_iconst dX8_readScript_47 rfl ?_
    refine nx_iadd dX8_readScript_48 rfl ?_
    refine m_iast 6 ⟨Nat.le_of_ble_eq_true rfl, Nat.le_of_ble_eq_true rfl⟩ dX8_readScript_49 rfl (fun g8 => ?_)
    refine nx_aload_n rfl dX8_readScript_50 rfl ?_
    refine nx_getf fl_8_72 mW_m rfl dX8_readScript_51 rfl ?_
    refine nx_iconst dX8_readScript_54 rfl ?_
    refine nx_seq (C1 := fun s11 : Int32 × mS => .inl (83, [some (.ref m), some (.int a1), some (.int s4.1)], [.int s11.1], (mW Γ M0 m s11.2))) ?_ (fun s11 => ?_)
    · refine nx_icmp_ne (t := 82) dX8_readScript_55 (by decide) rfl ?_ ?_
      · refine nx_iconst dX8_readScript_82 rfl ?_
        obtain ⟨_, _⟩ := s4
        exact nx_leaf rfl
      · refine nx_aload_n rfl dX8_readScript_58 rfl ?_
        refine nx_callVr [] (fun r => .int r.1) (fun r => (mW Γ M0 m r.2)) cw_8_75 cv_X8_ahead (fun r e => cM_ahead X.2.1  e) mW_m rfl rfl (Nat.le_of_ble_eq_true rfl) (Nat.le_of_ble_eq_true rfl) dX8_readScript_59 rfl (fun p9 => ?_)
        refine nx_bipush (by decide +kernel) dX8_readScript_62 rfl ?_
        refine nx_icmp_ne (t := 82) dX8_readScript_64 (by decide) rfl ?_ ?_
        · refine nx_iconst dX8_readScript_82 rfl ?_
          obtain ⟨_, _⟩ := s4
          obtain ⟨_, _⟩ := p9
          exact nx_leaf rfl
        · refine nx_aload_n rfl dX8_readScript_67 rfl ?_
          refine nx_getf fl_8_25 mW_m rfl dX8_readScript_68 rfl ?_
          refine nx_iload_n rfl dX8_readScript_71 rfl ?_
          refine m_iald 6 ⟨Nat.le_of_ble_eq_true rfl, Nat.le_of_ble_eq_true rfl⟩ dX8_readScript_72 rfl (fun x10 => ?_)
          refine nx_bipush (by decide +kernel) dX8_readScript_73 rfl ?_
          refine nx_icmp_ge (t := 82) dX8_readScript_75 (by decide) rfl ?_ ?_
          · refine nx_iconst dX8_readScript_82 rfl ?_
            obtain ⟨_, _⟩ := s4
            obtain ⟨_, _⟩ := p9
            exact nx_leaf rfl
          · refine nx_iconst dX8_readScript_78 rfl ?_
            refine nx_goto (q := 83) dX8_readScript_79 (by decide) ?_
            obtain ⟨_, _⟩ := s4
            obtain ⟨_, _⟩ := p9
            exact nx_leaf rfl
    refine nx_istore_n [some (.ref m), some (.int a1), some (.int s11.1)] dX8_readScript_83 rfl (Nat.le_of_ble_eq_true rfl) rfl rfl ?_
    refine nx_aload_n rfl dX8_readScript_84 rfl ?_
    refine nx_dup rfl dX8_readScript_85 rfl ?_
    refine nx_getf fl_8_65 mW_m rfl dX8_readScript_86 rfl ?_
    refine nx_iload_n rfl dX8_readScript_89 rfl ?_
    refine nx_seq (C1 := fun s12 : Int32 => .inl (98, [some (.ref m), some (.int a1), some (.int s11.1)], [.int s12, .int (s11.2.1 0 3), .ref m], (mW Γ M0 m s11.2))) ?_ (fun s12 => ?_)
    · refine nx_if_eq (t := 97) dX8_readScript_90 (by decide) rfl ?_ ?_
      · refine nx_iconst dX8_readScript_97 rfl ?_
        obtain ⟨_, _⟩ := s11
        exact nx_leaf rfl
      · refine nx_iconst dX8_readScript_93 rfl ?_
        refine nx_goto (q := 98) dX8_readScript_94 (by decide) ?_
        obtain ⟨_, _⟩ := s11
        exact nx_leaf rfl
    refine nx_iadd dX8_readScript_98 rfl ?_
    refine m_put fl_8_65 ft_8_3 rfl rfl (Nat.le_of_ble_eq_true rfl) rfl dX8_readScript_99 rfl (fun g13 => ?_)
    refine nx_goto (q := 19) dX8_readScript_102 (by decide) ?_
    obtain ⟨_, _⟩ := s11
    exact nx_leaf rfl
set_option maxRecDepth 4000 in
theorem jM_readScript {Γ : nx_G} {M0 : nx_M} {m : Nat} (u : Nat) (g : mS) (a1 : Int32)   (X : nx_X) (Z : nx_Z) : nx_J Γ X (RX8, cX8_readScript, 3, (some .int), "readScript", 5) Z (fun r0 : Int32 × mS => .inr (some (.int r0.1), (mW Γ M0 m r0.2))) (.inl (0, [some (.ref m), some (.int a1), none], [], (mW Γ M0 m g))) (fM_readScript u g a1) := by
  unfold fM_readScript
  refine nx_aload_n rfl dX8_readScript_0 rfl ?_
  refine nx_iconst dX8_readScript_1 rfl ?_
  refine m_put fl_8_65 ft_8_3 rfl rfl (Nat.le_of_ble_eq_true rfl) rfl dX8_readScript_2 rfl (fun g1 => ?_)
  refine nx_aload_n rfl dX8_readScript_5 rfl ?_
  refine nx_iconst dX8_readScript_6 rfl ?_
  refine m_put fl_8_72 ft_8_4 rfl rfl (Nat.le_of_ble_eq_true rfl) rfl dX8_readScript_7 rfl (fun g2 => ?_)
  refine nx_aload_n rfl dX8_readScript_10 rfl ?_
  refine nx_getf fl_8_25 mW_m rfl dX8_readScript_11 rfl ?_
  refine nx_iload_n rfl dX8_readScript_14 rfl ?_
  refine nx_iconst dX8_readScript_15 rfl ?_
  refine m_iast 6 ⟨Nat.le_of_ble_eq_true rfl, Nat.le_of_ble_eq_true rfl⟩ dX8_readScript_16 rfl (fun g3 => ?_)
  refine nx_iconst dX8_readScript_17 rfl ?_
  refine nx_istore_n [some (.ref m), some (.int a1), some (.int (iz 1))] dX8_readScript_18 rfl (Nat.le_of_ble_eq_true rfl) rfl rfl ?_
  refine nx_seq (C1 := fun e14 : mS => .inl (105, [some (.ref m), some (.int a1), none], [], (mW Γ M0 m e14))) (nx_loop (C1 := fun s4 : Int32 × mS => .inl (19, [some (.ref m), some (.int a1), some (.int s4.1)], [], (mW Γ M0 m s4.2))) (fun s4 => jM_readScript_19  u a1 X Z s4) ((iz 1), g3)) (fun e14 => ?_)
  refine nx_aload_n rfl dX8_readScript_105 rfl ?_
  refine nx_getf fl_8_72 mW_m rfl dX8_readScript_106 rfl ?_
  refine nx_iconst dX8_readScript_109 rfl ?_
  refine nx_seq (C1 := fun s17 : mS => .inl (125, [some (.ref m), some (.int a1), none], [], (mW Γ M0 m s17))) ?_ (fun s17 => ?_)
  · refine nx_icmp_ne (t := 125) dX8_readScript_110 (by decide) rfl ?_ ?_
    · exact nx_leaf rfl
    · refine nx_aload_n rfl dX8_readScript_113 rfl ?_
      refine nx_callVr [] (fun r => .int r.1) (fun r => (mW Γ M0 m r.2)) cw_8_75 cv_X8_ahead (fun r e => cM_ahead X.2.1  e) mW_m rfl rfl (Nat.le_of_ble_eq_true rfl) (Nat.le_of_ble_eq_true rfl) dX8_readScript_114 rfl (fun p15 => ?_)
      refine nx_iconst dX8_readScript_117 rfl ?_
      refine nx_icmp_eq (t := 125) dX8_readScript_118 (by decide) rfl ?_ ?_
      · obtain ⟨_, _⟩ := p15
        exact nx_leaf rfl
      · refine nx_aload_n rfl dX8_readScript_121 rfl ?_
        refine nx_callVv [] (fun r => (mW Γ M0 m r)) cw_8_82 cv_X8_bad (fun r e => cM_bad X.2.1  e) mW_m rfl rfl (Nat.le_of_ble_eq_true rfl) (Nat.le_of_ble_eq_true rfl) dX8_readScript_122 rfl (fun g16 => ?_)
        exact nx_leaf rfl
  refine nx_aload_n rfl dX8_readScript_125 rfl ?_
  refine nx_getf fl_8_72 mW_m rfl dX8_readScript_126 rfl ?_
  exact nx_iret dX8_readScript_129 rfl rfl
theorem cM_readScript (l : Launch) {Γ : nx_G} {M0 : nx_M} {m : Nat} {u : Nat} {g : mS} {a1 : Int32} {r : Int32 × mS}  (h : fM_readScript u g a1 = some r) : nx_Ct l Γ 5 yX8_readScript cX8_readScript 3 (some .int) [.ref m, .int a1] (mW Γ M0 m g) (some (.int r.1), (mW Γ M0 m r.2)) :=
  nx_ct (out := fun r0 : Int32 × mS => (some (.int r0.1), (mW Γ M0 m r0.2))) [some (.ref m), some (.int a1), none] pn_RX8 h (Nat.le_of_ble_eq_true rfl) rfl (fun X Z _ => jM_readScript  u g a1 X Z)
