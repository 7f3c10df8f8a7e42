theorem dX6_oldestSeat_0 : decode cX6_oldestSeat 0 = .ok (.iconst (-1), 1) := by decide +kernel
theorem dX6_oldestSeat_1 : decode cX6_oldestSeat 1 = .ok (.istore_n 1, 1) := by decide +kernel
theorem dX6_oldestSeat_2 : decode cX6_oldestSeat 2 = .ok (.iconst 0, 1) := by decide +kernel
theorem dX6_oldestSeat_3 : decode cX6_oldestSeat 3 = .ok (.istore_n 2, 1) := by decide +kernel
theorem dX6_oldestSeat_4 : decode cX6_oldestSeat 4 = .ok (.iload_n 2, 1) := by decide +kernel
theorem dX6_oldestSeat_5 : decode cX6_oldestSeat 5 = .ok (.bipush 8, 2) := by decide +kernel
theorem dX6_oldestSeat_7 : decode cX6_oldestSeat 7 = .ok (.if_icmp .ge 45, 3) := by decide +kernel
theorem dX6_oldestSeat_10 : decode cX6_oldestSeat 10 = .ok (.aload_n 0, 1) := by decide +kernel
theorem dX6_oldestSeat_11 : decode cX6_oldestSeat 11 = .ok (.iload_n 2, 1) := by decide +kernel
theorem dX6_oldestSeat_12 : decode cX6_oldestSeat 12 = .ok (.invokevirtual 62, 3) := by decide +kernel
theorem dX6_oldestSeat_15 : decode cX6_oldestSeat 15 = .ok (.ifCond .eq 31, 3) := by decide +kernel
theorem dX6_oldestSeat_18 : decode cX6_oldestSeat 18 = .ok (.iload_n 1, 1) := by decide +kernel
theorem dX6_oldestSeat_19 : decode cX6_oldestSeat 19 = .ok (.iconst (-1), 1) := by decide +kernel
theorem dX6_oldestSeat_20 : decode cX6_oldestSeat 20 = .ok (.if_icmp .eq 24, 3) := by decide +kernel
theorem dX6_oldestSeat_23 : decode cX6_oldestSeat 23 = .ok (.aload_n 0, 1) := by decide +kernel
theorem dX6_oldestSeat_24 : decode cX6_oldestSeat 24 = .ok (.getfield 11, 3) := by decide +kernel
theorem dX6_oldestSeat_27 : decode cX6_oldestSeat 27 = .ok (.bipush 48, 2) := by decide +kernel
theorem dX6_oldestSeat_29 : decode cX6_oldestSeat 29 = .ok (.iload_n 2, 1) := by decide +kernel
theorem dX6_oldestSeat_30 : decode cX6_oldestSeat 30 = .ok (.iadd, 1) := by decide +kernel
theorem dX6_oldestSeat_31 : decode cX6_oldestSeat 31 = .ok (.iaload, 1) := by decide +kernel
theorem dX6_oldestSeat_32 : decode cX6_oldestSeat 32 = .ok (.aload_n 0, 1) := by decide +kernel
theorem dX6_oldestSeat_33 : decode cX6_oldestSeat 33 = .ok (.getfield 11, 3) := by decide +kernel
theorem dX6_oldestSeat_36 : decode cX6_oldestSeat 36 = .ok (.bipush 48, 2) := by decide +kernel
theorem dX6_oldestSeat_38 : decode cX6_oldestSeat 38 = .ok (.iload_n 1, 1) := by decide +kernel
theorem dX6_oldestSeat_39 : decode cX6_oldestSeat 39 = .ok (.iadd, 1) := by decide +kernel
theorem dX6_oldestSeat_40 : decode cX6_oldestSeat 40 = .ok (.iaload, 1) := by decide +kernel
theorem dX6_oldestSeat_41 : decode cX6_oldestSeat 41 = .ok (.if_icmp .ge 5, 3) := by decide +kernel
theorem dX6_oldestSeat_44 : decode cX6_oldestSeat 44 = .ok (.iload_n 2, 1) := by decide +kernel
theorem dX6_oldestSeat_45 : decode cX6_oldestSeat 45 = .ok (.istore_n 1, 1) := by decide +kernel
theorem dX6_oldestSeat_46 : decode cX6_oldestSeat 46 = .ok (.iinc 2 1, 3) := by decide +kernel
theorem dX6_oldestSeat_49 : decode cX6_oldestSeat 49 = .ok (.goto (-45), 3) := by decide +kernel
theorem dX6_oldestSeat_52 : decode cX6_oldestSeat 52 = .ok (.iload_n 1, 1) := by decide +kernel
theorem dX6_oldestSeat_53 : decode cX6_oldestSeat 53 = .ok (.ireturn, 1) := by decide +kernel
def fW_oldestSeat_4 (u : Nat) (f : (Nat → Int32)) (s1 : Int32 × Int32) : Option ((Int32 × Int32) ⊕ (Int32)) :=
  if (iz 8) ≤ s1.2 then
    some (.inr s1.1)
  else
    (fW_isLive u f s1.2).bind fun b2 =>
    (if b2 = true then
       if s1.1 = (iz (-1)) then
         some s1.2
       else
         (nx_rd 514 f ((iz 48) + s1.2)).bind fun x3 =>
         (nx_rd 514 f ((iz 48) + s1.1)).bind fun x4 =>
         if x4 ≤ x3 then
           some s1.1
         else
           some s1.2
     else
       some s1.1 : Option (Int32)).bind fun s5 =>
    some (.inl (s5, (s1.2 + iz 1)))
def fW_oldestSeat (u : Nat) (f : (Nat → Int32)) : Option (Int32) :=
  (nx_iter u (fW_oldestSeat_4 u f) ((iz (-1)), (iz 0))).bind fun e6 =>
  some e6
set_option maxRecDepth 4000 in
theorem jW_oldestSeat_4 {Γ : nx_G} {M0 : nx_M} {w c : Nat} (hw : M0.1 w = some (.inr (6, [.ref c]))) (hc : w ≠ c) (u : Nat) (f : (Nat → Int32))   (X : nx_X) (Z : nx_Z) (s1 : Int32 × Int32) : nx_J Γ X (RX6, cX6_oldestSeat, 3, (some .int), "oldestSeat", 2) Z (Sum.elim (fun s1 : Int32 × Int32 => .inl (4, [some (.ref w), some (.int s1.1), some (.int s1.2)], [], (wW Γ M0 c f))) (fun e6 : Int32 => .inl (52, [some (.ref w), some (.int e6), none], [], (wW Γ M0 c f)))) (.inl (4, [some (.ref w), some (.int s1.1), some (.int s1.2)], [], (wW Γ M0 c f))) (fW_oldestSeat_4 u f s1) := by
  unfold fW_oldestSeat_4
  refine nx_iload_n rfl dX6_oldestSeat_4 rfl ?_
  refine nx_bipush (by decide +kernel) dX6_oldestSeat_5 rfl ?_
  refine nx_icmp_ge (t := 52) dX6_oldestSeat_7 (by decide) rfl ?_ ?_
  · refine nx_weak (ls' := [some (.ref w), some (.int s1.1), none]) (nx_wk_s (nx_wk_s (nx_wk_n nx_wk_e))) ?_
    obtain ⟨_, _⟩ := s1
    exact nx_leaf rfl
  · refine nx_aload_n rfl dX6_oldestSeat_10 rfl ?_
    refine nx_iload_n rfl dX6_oldestSeat_11 rfl ?_
    refine nx_callVr [.int s1.2] (fun r => .int (bz r)) (fun _ => (wW Γ M0 c f)) cw_6_62 cv_X6_isLive (fun r e => cW_isLive X.2.1 hw hc e) ((nx_put_ne hc).trans hw) rfl rfl (Nat.le_of_ble_eq_true rfl) (Nat.le_of_ble_eq_true rfl) dX6_oldestSeat_12 rfl (fun b2 => ?_)
    refine nx_seq (C1 := fun s5 : Int32 => .inl (46, [some (.ref w), some (.int s5), some (.int s1.2)], [], (wW Γ M0 c f))) ?_ (fun s5 => ?_)
    · refine nx_ifz_eq (t := 46) dX6_oldestSeat_15 (by decide) rfl ?_ ?_
      · obtain ⟨_, _⟩ := s1
        exact nx_leaf rfl
      · refine nx_iload_n rfl dX6_oldestSeat_18 rfl ?_
        refine nx_iconst dX6_oldestSeat_19 rfl ?_
        refine nx_icmp_eq (t := 44) dX6_oldestSeat_20 (by decide) rfl ?_ ?_
        · refine nx_iload_n rfl dX6_oldestSeat_44 rfl ?_
          refine nx_istore_n [some (.ref w), some (.int s1.2), some (.int s1.2)] dX6_oldestSeat_45 rfl (Nat.le_of_ble_eq_true rfl) rfl rfl ?_
          obtain ⟨_, _⟩ := s1
          exact nx_leaf rfl
        · refine nx_aload_n rfl dX6_oldestSeat_23 rfl ?_
          refine nx_getf fl_6_11 ((nx_put_ne hc).trans hw) rfl dX6_oldestSeat_24 rfl ?_
          refine nx_bipush (by decide +kernel) dX6_oldestSeat_27 rfl ?_
          refine nx_iload_n rfl dX6_oldestSeat_29 rfl ?_
          refine nx_iadd dX6_oldestSeat_30 rfl ?_
          refine nx_iald nx_put_self dX6_oldestSeat_31 rfl (fun x3 => ?_)
          refine nx_aload_n rfl dX6_oldestSeat_32 rfl ?_
          refine nx_getf fl_6_11 ((nx_put_ne hc).trans hw) rfl dX6_oldestSeat_33 rfl ?_
          refine nx_bipush (by decide +kernel) dX6_oldestSeat_36 rfl ?_
          refine nx_iload_n rfl dX6_oldestSeat_38 rfl ?_
          refine nx_iadd dX6_oldestSeat_39 rfl ?_
          refine nx_iald nx_put_self dX6_oldestSeat_40 rfl (fun x4 => ?_)
          refine nx_icmp_ge (t := 46) dX6_oldestSeat_41 (by decide) rfl ?_ ?_
          · obtain ⟨_, _⟩ := s1
            exact nx_leaf rfl
          · refine nx_iload_n rfl dX6_oldestSeat_44 rfl ?_
            refine nx_istore_n [some (.ref w), some (.int s1.2), some (.int s1.2)] dX6_oldestSeat_45 rfl (Nat.le_of_ble_eq_true rfl) rfl rfl ?_
            obtain ⟨_, _⟩ := s1
            exact nx_leaf rfl
    refine nx_iinc [some (.ref w), some (.int s5), some (.int (s1.2 + iz 1))] dX6_oldestSeat_46 rfl rfl (Nat.le_of_ble_eq_true rfl) rfl rfl ?_
    refine nx_goto (q := 4) dX6_oldestSeat_49 (by decide) ?_
    obtain ⟨_, _⟩ := s1
    exact nx_leaf rfl
set_option maxRecDepth 4000 in
theorem jW_oldestSeat {Γ : nx_G} {M0 : nx_M} {w c : Nat} (hw : M0.1 w = some (.inr (6, [.ref c]))) (hc : w ≠ c) (u : Nat) (f : (Nat → Int32))   (X : nx_X) (Z : nx_Z) : nx_J Γ X (RX6, cX6_oldestSeat, 3, (some .int), "oldestSeat", 2) Z (fun r0 : Int32 => .inr (some (.int r0), (wW Γ M0 c f))) (.inl (0, [some (.ref w), none, none], [], (wW Γ M0 c f))) (fW_oldestSeat u f) := by
  unfold fW_oldestSeat
  refine nx_iconst dX6_oldestSeat_0 rfl ?_
  refine nx_istore_n [some (.ref w), some (.int (iz (-1))), none] dX6_oldestSeat_1 rfl (Nat.le_of_ble_eq_true rfl) rfl rfl ?_
  refine nx_iconst dX6_oldestSeat_2 rfl ?_
  refine nx_istore_n [some (.ref w), some (.int (iz (-1))), some (.int (iz 0))] dX6_oldestSeat_3 rfl (Nat.le_of_ble_eq_true rfl) rfl rfl ?_
  refine nx_seq (C1 := fun e6 : Int32 => .inl (52, [some (.ref w), some (.int e6), none], [], (wW Γ M0 c f))) (nx_loop (C1 := fun s1 : Int32 × Int32 => .inl (4, [some (.ref w), some (.int s1.1), some (.int s1.2)], [], (wW Γ M0 c f))) (fun s1 => jW_oldestSeat_4 hw hc u f X Z s1) ((iz (-1)), (iz 0))) (fun e6 => ?_)
  refine nx_iload_n rfl dX6_oldestSeat_52 rfl ?_
  exact nx_iret dX6_oldestSeat_53 rfl rfl
theorem cW_oldestSeat (l : Launch) {Γ : nx_G} {M0 : nx_M} {w c : Nat} (hw : M0.1 w = some (.inr (6, [.ref c]))) (hc : w ≠ c) {u : Nat} {f : (Nat → Int32)} {r : Int32}  (h : fW_oldestSeat u f = some r) : nx_Ct l Γ 2 yX6_oldestSeat cX6_oldestSeat 3 (some .int) [.ref w] (wW Γ M0 c f) (some (.int r), (wW Γ M0 c f)) :=
  nx_ct (out := fun r0 : Int32 => (some (.int r0), (wW Γ M0 c f))) [some (.ref w), none, none] pn_RX6 h (Nat.le_of_ble_eq_true rfl) rfl (fun X Z _ => jW_oldestSeat hw hc u f X Z)
theorem dX6_lastSureSlot_0 : decode cX6_lastSureSlot 0 = .ok (.iload_n 1, 1) := by decide +kernel
theorem dX6_lastSureSlot_1 : decode cX6_lastSureSlot 1 = .ok (.bipush 9, 2) := by decide +kernel
theorem dX6_lastSureSlot_3 : decode cX6_lastSureSlot 3 = .ok (.imul, 1) := by decide +kernel
theorem dX6_lastSureSlot_4 : decode cX6_lastSureSlot 4 = .ok (.istore_n 3, 1) := by decide +kernel
theorem dX6_lastSureSlot_5 : decode cX6_lastSureSlot 5 = .ok (.bipush 8, 2) := by decide +kernel
theorem dX6_lastSureSlot_7 : decode cX6_lastSureSlot 7 = .ok (.istore 4, 2) := by decide +kernel
theorem dX6_lastSureSlot_9 : decode cX6_lastSureSlot 9 = .ok (.iload 4, 2) := by decide +kernel
theorem dX6_lastSureSlot_11 : decode cX6_lastSureSlot 11 = .ok (.ifCond .lt 75, 3) := by decide +kernel
theorem dX6_lastSureSlot_14 : decode cX6_lastSureSlot 14 = .ok (.iload 4, 2) := by decide +kernel
theorem dX6_lastSureSlot_16 : decode cX6_lastSureSlot 16 = .ok (.aload_n 0, 1) := by decide +kernel
theorem dX6_lastSureSlot_17 : decode cX6_lastSureSlot 17 = .ok (.getfield 11, 3) := by decide +kernel
theorem dX6_lastSureSlot_20 : decode cX6_lastSureSlot 20 = .ok (.sipush 232, 3) := by decide +kernel
theorem dX6_lastSureSlot_23 : decode cX6_lastSureSlot 23 = .ok (.iload_n 1, 1) := by decide +kernel
theorem dX6_lastSureSlot_24 : decode cX6_lastSureSlot 24 = .ok (.iadd, 1) := by decide +kernel
theorem dX6_lastSureSlot_25 : decode cX6_lastSureSlot 25 = .ok (.iaload, 1) := by decide +kernel
theorem dX6_lastSureSlot_26 : decode cX6_lastSureSlot 26 = .ok (.if_icmp .ge 24, 3) := by decide +kernel
theorem dX6_lastSureSlot_29 : decode cX6_lastSureSlot 29 = .ok (.aload_n 0, 1) := by decide +kernel
theorem dX6_lastSureSlot_30 : decode cX6_lastSureSlot 30 = .ok (.getfield 11, 3) := by decide +kernel
theorem dX6_lastSureSlot_33 : decode cX6_lastSureSlot 33 = .ok (.sipush 400, 3) := by decide +kernel
theorem dX6_lastSureSlot_36 : decode cX6_lastSureSlot 36 = .ok (.iload_n 3, 1) := by decide +kernel
theorem dX6_lastSureSlot_37 : decode cX6_lastSureSlot 37 = .ok (.iadd, 1) := by decide +kernel
theorem dX6_lastSureSlot_38 : decode cX6_lastSureSlot 38 = .ok (.iload 4, 2) := by decide +kernel
theorem dX6_lastSureSlot_40 : decode cX6_lastSureSlot 40 = .ok (.iadd, 1) := by decide +kernel
theorem dX6_lastSureSlot_41 : decode cX6_lastSureSlot 41 = .ok (.iaload, 1) := by decide +kernel
theorem dX6_lastSureSlot_42 : decode cX6_lastSureSlot 42 = .ok (.iconst (-1), 1) := by decide +kernel
theorem dX6_lastSureSlot_43 : decode cX6_lastSureSlot 43 = .ok (.if_icmp .ne 7, 3) := by decide +kernel
theorem dX6_lastSureSlot_46 : decode cX6_lastSureSlot 46 = .ok (.iconst 1, 1) := by decide +kernel
theorem dX6_lastSureSlot_47 : decode cX6_lastSureSlot 47 = .ok (.goto 4, 3) := by decide +kernel
theorem dX6_lastSureSlot_50 : decode cX6_lastSureSlot 50 = .ok (.iconst 0, 1) := by decide +kernel
theorem dX6_lastSureSlot_51 : decode cX6_lastSureSlot 51 = .ok (.istore 5, 2) := by decide +kernel
theorem dX6_lastSureSlot_53 : decode cX6_lastSureSlot 53 = .ok (.iload 5, 2) := by decide +kernel
theorem dX6_lastSureSlot_55 : decode cX6_lastSureSlot 55 = .ok (.ifCond .eq 25, 3) := by decide +kernel
theorem dX6_lastSureSlot_58 : decode cX6_lastSureSlot 58 = .ok (.aload_n 0, 1) := by decide +kernel
theorem dX6_lastSureSlot_59 : decode cX6_lastSureSlot 59 = .ok (.getfield 11, 3) := by decide +kernel
theorem dX6_lastSureSlot_62 : decode cX6_lastSureSlot 62 = .ok (.sipush 238, 3) := by decide +kernel
theorem dX6_lastSureSlot_65 : decode cX6_lastSureSlot 65 = .ok (.iload_n 3, 1) := by decide +kernel
theorem dX6_lastSureSlot_66 : decode cX6_lastSureSlot 66 = .ok (.iadd, 1) := by decide +kernel
theorem dX6_lastSureSlot_67 : decode cX6_lastSureSlot 67 = .ok (.iload 4, 2) := by decide +kernel
theorem dX6_lastSureSlot_69 : decode cX6_lastSureSlot 69 = .ok (.iadd, 1) := by decide +kernel
theorem dX6_lastSureSlot_70 : decode cX6_lastSureSlot 70 = .ok (.iaload, 1) := by decide +kernel
theorem dX6_lastSureSlot_71 : decode cX6_lastSureSlot 71 = .ok (.iload_n 2, 1) := by decide +kernel
theorem dX6_lastSureSlot_72 : decode cX6_lastSureSlot 72 = .ok (.if_icmp .gt 8, 3) := by decide +kernel
theorem dX6_lastSureSlot_75 : decode cX6_lastSureSlot 75 = .ok (.iload_n 3, 1) := by decide +kernel
theorem dX6_lastSureSlot_76 : decode cX6_lastSureSlot 76 = .ok (.iload 4, 2) := by decide +kernel
theorem dX6_lastSureSlot_78 : decode cX6_lastSureSlot 78 = .ok (.iadd, 1) := by decide +kernel
theorem dX6_lastSureSlot_79 : decode cX6_lastSureSlot 79 = .ok (.ireturn, 1) := by decide +kernel
theorem dX6_lastSureSlot_80 : decode cX6_lastSureSlot 80 = .ok (.iinc 4 (-1), 3) := by decide +kernel
theorem dX6_lastSureSlot_83 : decode cX6_lastSureSlot 83 = .ok (.goto (-74), 3) := by decide +kernel
theorem dX6_lastSureSlot_86 : decode cX6_lastSureSlot 86 = .ok (.iconst (-1), 1) := by decide +kernel
theorem dX6_lastSureSlot_87 : decode cX6_lastSureSlot 87 = .ok (.ireturn, 1) := by decide +kernel
def fW_lastSureSlot_9 (f : (Nat → Int32)) (a1 : Int32) (a2 : Int32) (s1 : Int32) : Option ((Int32) ⊕ ((Unit) ⊕ (Int32))) :=
  if s1 < iz 0 then
    some (.inr (.inl ()))
  else
    (nx_rd 514 f ((iz 232) + a1)).bind fun x2 =>
    (if x2 ≤ s1 then
       some (iz 0)
     else
       (nx_rd 514 f (((iz 400) + (a1 * (iz 9))) + s1)).bind fun x3 =>
       if x3 = (iz (-1)) then
         some (iz 1)
       else
         some (iz 0) : Option (Int32)).bind fun s4 =>
    if s4 = iz 0 then
      some (.inl (s1 + iz (-1)))
    else
      (nx_rd 514 f (((iz 238) + (a1 * (iz 9))) + s1)).bind fun x5 =>
      if a2 < x5 then
        some (.inl (s1 + iz (-1)))
      else
        some (.inr (.inr ((a1 * (iz 9)) + s1)))
def fW_lastSureSlot (u : Nat) (f : (Nat → Int32)) (a1 : Int32) (a2 : Int32) : Option (Int32) :=
  (nx_iter u (fW_lastSureSlot_9 f a1 a2) (iz 8)).bind (Sum.elim (fun e6 =>
    some (iz (-1)))
    (fun r0 => some r0))
set_option maxRecDepth 4000 in
theorem jW_lastSureSlot_9 {Γ : nx_G} {M0 : nx_M} {w c : Nat} (hw : M0.1 w = some (.inr (6, [.ref c]))) (hc : w ≠ c) (f : (Nat → Int32)) (a1 : Int32) (a2 : Int32)   (X : nx_X) (Z : nx_Z) (s1 : Int32) : nx_J Γ X (RX6, cX6_lastSureSlot, 6, (some .int), "lastSureSlot", 1) Z (Sum.elim (fun s1 : Int32 => .inl (9, [some (.ref w), some (.int a1), some (.int a2), some (.int (a1 * (iz 9))), some (.int s1), none], [], (wW Γ M0 c f))) (Sum.elim (fun e6 : Unit => .inl (86, [some (.ref w), some (.int a1), some (.int a2), some (.int (a1 * (iz 9))), none, none], [], (wW Γ M0 c f))) (fun r0 : Int32 => .inr (some (.int r0), (wW Γ M0 c f))))) (.inl (9, [some (.ref w), some (.int a1), some (.int a2), some (.int (a1 * (iz 9))), some (.int s1), none], [], (wW Γ M0 c f))) (fW_lastSureSlot_9 f a1 a2 s1) := by
  unfold fW_lastSureSlot_9
  refine nx_iload rfl dX6_lastSureSlot_9 rfl ?_
  refine nx_if_lt (t := 86) dX6_lastSureSlot_11 (by decide) rfl ?_ ?_
  · refine nx_weak (ls' := [some (.ref w), some (.int a1), some (.int a2), some (.int (a1 * (iz 9))), none, none]) (nx_wk_s (nx_wk_s (nx_wk_s (nx_wk_s (nx_wk_n (nx_wk_n nx_wk_e)))))) ?_
    exact nx_leaf rfl
  · refine nx_iload rfl dX6_lastSureSlot_14 rfl ?_
    refine nx_aload_n rfl dX6_lastSureSlot_16 rfl ?_
    refine nx_getf fl_6_11 ((nx_put_ne hc).trans hw) rfl dX6_lastSureSlot_17 rfl ?_
    refine nx_sipush (by decide +kernel) dX6_lastSureSlot_20 rfl ?_
    refine nx_iload_n rfl dX6_lastSureSlot_23 rfl ?_
    refine nx_iadd dX6_lastSureSlot_24 rfl ?_
    refine nx_iald nx_put_self dX6_lastSureSlot_25 rfl (fun x2 => ?_)
    refine nx_seq (C1 := fun s4 : Int32 => .inl (51, [some (.ref w), some (.int a1), some (.int a2), some (.int (a1 * (iz 9))), some (.int s1), none], [.int s4], (wW Γ M0 c f))) ?_ (fun s4 => ?_)
    · refine nx_icmp_ge (t := 50) dX6_lastSureSlot_26 (by decide) rfl ?_ ?_
      · refine nx_iconst dX6_lastSureSlot_50 rfl ?_
        exact nx_leaf rfl
      · refine nx_aload_n rfl dX6_lastSureSlot_29 rfl ?_
        refine nx_getf fl_6_11 ((nx_put_ne hc).trans hw) rfl dX6_lastSureSlot_30 rfl ?_
        refine nx_sipush (by decide +kernel) dX6_lastSureSlot_33 rfl ?_
        refine nx_iload_n rfl dX6_lastSureSlot_36 rfl ?_
        refine nx_iadd dX6_lastSureSlot_37 rfl ?_
        refine nx_iload rfl dX6_lastSureSlot_38 rfl ?_
        refine nx_iadd dX6_lastSureSlot_40 rfl ?_
        refine nx_iald nx_put_self dX6_lastSureSlot_41 rfl (fun x3 => ?_)
        refine nx_iconst dX6_lastSureSlot_42 rfl ?_
        refine nx_icmp_ne (t := 50) dX6_lastSureSlot_43 (by decide) rfl ?_ ?_
        · refine nx_iconst dX6_lastSureSlot_50 rfl ?_
          exact nx_leaf rfl
        · refine nx_iconst dX6_lastSureSlot_46 rfl ?_
          refine nx_goto (q := 51) dX6_lastSureSlot_47 (by decide) ?_
          exact nx_leaf rfl
    refine nx_istore [some (.ref w), some (.int a1), some (.int a2), some (.int (a1 * (iz 9))), some (.int s1), some (.int s4)] dX6_lastSureSlot_51 rfl (Nat.le_of_ble_eq_true rfl) rfl rfl ?_
    refine nx_iload rfl dX6_lastSureSlot_53 rfl ?_
    refine nx_if_eq (t := 80) dX6_lastSureSlot_55 (by decide) rfl ?_ ?_
    · refine nx_iinc [some (.ref w), some (.int a1), some (.int a2), some (.int (a1 * (iz 9))), some (.int (s1 + iz (-1))), some (.int s4)] dX6_lastSureSlot_80 rfl rfl (Nat.le_of_ble_eq_true rfl) rfl rfl ?_
      refine nx_goto (q := 9) dX6_lastSureSlot_83 (by decide) ?_
      refine nx_weak (ls' := [some (.ref w), some (.int a1), some (.int a2), some (.int (a1 * (iz 9))), some (.int (s1 + iz (-1))), none]) (nx_wk_s (nx_wk_s (nx_wk_s (nx_wk_s (nx_wk_s (nx_wk_n nx_wk_e)))))) ?_
      exact nx_leaf rfl
    · refine nx_aload_n rfl dX6_lastSureSlot_58 rfl ?_
      refine nx_getf fl_6_11 ((nx_put_ne hc).trans hw) rfl dX6_lastSureSlot_59 rfl ?_
      refine nx_sipush (by decide +kernel) dX6_lastSureSlot_62 rfl ?_
      refine nx_iload_n rfl dX6_lastSureSlot_65 rfl ?_
      refine nx_iadd dX6_lastSureSlot_66 rfl ?_
      refine nx_iload rfl dX6_lastSureSlot_67 rfl ?_
      refine nx_iadd dX6_lastSureSlot_69 rfl ?_
      refine nx_iald nx_put_self dX6_lastSureSlot_70 rfl (fun x5 => ?_)
      refine nx_iload_n rfl dX6_lastSureSlot_71 rfl ?_
      refine nx_icmp_gt (t := 80) dX6_lastSureSlot_72 (by decide) rfl ?_ ?_
      · refine nx_iinc [some (.ref w), some (.int a1), some (.int a2), some (.int (a1 * (iz 9))), some (.int (s1 + iz (-1))), some (.int s4)] dX6_lastSureSlot_80 rfl rfl (Nat.le_of_ble_eq_true rfl) rfl rfl ?_
        refine nx_goto (q := 9) dX6_lastSureSlot_83 (by decide) ?_
        refine nx_weak (ls' := [some (.ref w), some (.int a1), some (.int a2), some (.int (a1 * (iz 9))), some (.int (s1 + iz (-1))), none]) (nx_wk_s (nx_wk_s (nx_wk_s (nx_wk_s (nx_wk_s (nx_wk_n nx_wk_e)))))) ?_
        exact nx_leaf rfl
      · refine nx_iload_n rfl dX6_lastSureSlot_75 rfl ?_
        refine nx_iload rfl dX6_lastSureSlot_76 rfl ?_
        refine nx_iadd dX6_lastSureSlot_78 rfl ?_
        exact nx_iret dX6_lastSureSlot_79 rfl rfl
set_option maxRecDepth 4000 in
theorem jW_lastSureSlot {Γ : nx_G} {M0 : nx_M} {w c : Nat} (hw : M0.1 w = some (.inr (6, [.ref c]))) (hc : w ≠ c) (u : Nat) (f : (Nat → Int32)) (a1 : Int32) (a2 : Int32)   (X : nx_X) (Z : nx_Z) : nx_J Γ X (RX6, cX6_lastSureSlot, 6, (some .int), "lastSureSlot", 1) Z (fun r0 : Int32 => .inr (some (.int r0), (wW Γ M0 c f))) (.inl (0, [some (.ref w), some (.int a1), some (.int a2), none, none, none], [], (wW Γ M0 c f))) (fW_lastSureSlot u f a1 a2) := by
  unfold fW_lastSureSlot
  refine nx_iload_n rfl dX6_lastSureSlot_0 rfl ?_
  refine nx_bipush (by decide +kernel) dX6_lastSureSlot_1 rfl ?_
  refine nx_imul dX6_lastSureSlot_3 rfl ?_
  refine nx_istore_n [some (.ref w), some (.int a1), some (.int a2), some (.int (a1 * (iz 9))), none, none] dX6_lastSureSlot_4 rfl (Nat.le_of_ble_eq_true rfl) rfl rfl ?_
  refine nx_bipush (by decide +kernel) dX6_lastSureSlot_5 rfl ?_
  refine nx_istore [some (.ref w), some (.int a1), some (.int a2), some (.int (a1 * (iz 9))), some (.int (iz 8)), none] dX6_lastSureSlot_7 rfl (Nat.le_of_ble_eq_true rfl) rfl rfl ?_
  refine nx_seqS (Ca := fun e6 : Unit => .inl (86, [some (.ref w), some (.int a1), some (.int a2), some (.int (a1 * (iz 9))), none, none], [], (wW Γ M0 c f))) (Cb := fun r0 : Int32 => .inr (some (.int r0), (wW Γ M0 c f))) (nx_loop (C1 := fun s1 : Int32 => .inl (9, [some (.ref w), some (.int a1), some (.int a2), some (.int (a1 * (iz 9))), some (.int s1), none], [], (wW Γ M0 c f))) (fun s1 => jW_lastSureSlot_9 hw hc f a1 a2 X Z s1) (iz 8)) (fun e6 => ?_) (fun r0 => ?_)
  · refine nx_iconst dX6_lastSureSlot_86 rfl ?_
    exact nx_iret dX6_lastSureSlot_87 rfl rfl
  · exact nx_leaf rfl
theorem cW_lastSureSlot (l : Launch) {Γ : nx_G} {M0 : nx_M} {w c : Nat} (hw : M0.1 w = some (.inr (6, [.ref c]))) (hc : w ≠ c) {u : Nat} {f : (Nat → Int32)} {a1 : Int32} {a2 : Int32} {r : Int32}  (h : fW_lastSureSlot u f a1 a2 = some r) : nx_Ct l Γ 1 yX6_lastSureSlot cX6_lastSureSlot 6 (some .int) [.ref w, .int a1, .int a2] (wW Γ M0 c f) (some (.int r), (wW Γ M0 c f)) :=
  nx_ct (out := fun r0 : Int32 => (some (.int r0), (wW Γ M0 c f))) [some (.ref w), some (.int a1), some (.int a2), none, none, none] pn_RX6 h (Nat.le_of_ble_eq_true rfl) rfl (fun X Z _ => jW_lastSureSlot hw hc u f a1 a2 X Z)
theorem dX6_pruneKey_0 : decode cX6_pruneKey 0 = .ok (.iload_n 1, 1) := by decide +kernel
theorem dX6_pruneKey_1 : decode cX6_pruneKey 1 = .ok (.bipush 9, 2) := by decide +kernel
theorem dX6_pruneKey_3 : decode cX6_pruneKey 3 = .ok (.imul, 1) := by decide +kernel
theorem dX6_pruneKey_4 : decode cX6_pruneKey 4 = .ok (.istore_n 2, 1) := by decide +kernel
theorem dX6_pruneKey_5 : decode cX6_pruneKey 5 = .ok (.aload_n 0, 1) := by decide +kernel
theorem dX6_pruneKey_6 : decode cX6_pruneKey 6 = .ok (.getfield 11, 3) := by decide +kernel
theorem dX6_pruneKey_9 : decode cX6_pruneKey 9 = .ok (.sipush 232, 3) := by decide +kernel
theorem dX6_pruneKey_12 : decode cX6_pruneKey 12 = .ok (.iload_n 1, 1) := by decide +kernel
theorem dX6_pruneKey_13 : decode cX6_pruneKey 13 = .ok (.iadd, 1) := by decide +kernel
theorem dX6_pruneKey_14 : decode cX6_pruneKey 14 = .ok (.iaload, 1) := by decide +kernel
theorem dX6_pruneKey_15 : decode cX6_pruneKey 15 = .ok (.bipush 9, 2) := by decide +kernel
theorem dX6_pruneKey_17 : decode cX6_pruneKey 17 = .ok (.invokestatic 124, 3) := by decide +kernel
theorem dX6_pruneKey_20 : decode cX6_pruneKey 20 = .ok (.istore_n 3, 1) := by decide +kernel
theorem dX6_pruneKey_21 : decode cX6_pruneKey 21 = .ok (.aload_n 0, 1) := by decide +kernel
theorem dX6_pruneKey_22 : decode cX6_pruneKey 22 = .ok (.iload_n 1, 1) := by decide +kernel
theorem dX6_pruneKey_23 : decode cX6_pruneKey 23 = .ok (.aload_n 0, 1) := by decide +kernel
theorem dX6_pruneKey_24 : decode cX6_pruneKey 24 = .ok (.getfield 11, 3) := by decide +kernel
theorem dX6_pruneKey_27 : decode cX6_pruneKey 27 = .ok (.iconst 5, 1) := by decide +kernel
theorem dX6_pruneKey_28 : decode cX6_pruneKey 28 = .ok (.iaload, 1) := by decide +kernel
theorem dX6_pruneKey_29 : decode cX6_pruneKey 29 = .ok (.invokevirtual 174, 3) := by decide +kernel
theorem dX6_pruneKey_32 : decode cX6_pruneKey 32 = .ok (.istore 4, 2) := by decide +kernel
theorem dX6_pruneKey_34 : decode cX6_pruneKey 34 = .ok (.iconst 0, 1) := by decide +kernel
theorem dX6_pruneKey_35 : decode cX6_pruneKey 35 = .ok (.istore 5, 2) := by decide +kernel
theorem dX6_pruneKey_37 : decode cX6_pruneKey 37 = .ok (.iconst 0, 1) := by decide +kernel
theorem dX6_pruneKey_38 : decode cX6_pruneKey 38 = .ok (.istore 6, 2) := by decide +kernel
theorem dX6_pruneKey_40 : decode cX6_pruneKey 40 = .ok (.iload 6, 2) := by decide +kernel
theorem dX6_pruneKey_42 : decode cX6_pruneKey 42 = .ok (.iload_n 3, 1) := by decide +kernel
theorem dX6_pruneKey_43 : decode cX6_pruneKey 43 = .ok (.if_icmp .ge 62, 3) := by decide +kernel
theorem dX6_pruneKey_46 : decode cX6_pruneKey 46 = .ok (.aload_n 0, 1) := by decide +kernel
theorem dX6_pruneKey_47 : decode cX6_pruneKey 47 = .ok (.getfield 11, 3) := by decide +kernel
theorem dX6_pruneKey_50 : decode cX6_pruneKey 50 = .ok (.sipush 400, 3) := by decide +kernel
theorem dX6_pruneKey_53 : decode cX6_pruneKey 53 = .ok (.iload_n 2, 1) := by decide +kernel
theorem dX6_pruneKey_54 : decode cX6_pruneKey 54 = .ok (.iadd, 1) := by decide +kernel
theorem dX6_pruneKey_55 : decode cX6_pruneKey 55 = .ok (.iload 6, 2) := by decide +kernel
theorem dX6_pruneKey_57 : decode cX6_pruneKey 57 = .ok (.iadd, 1) := by decide +kernel
theorem dX6_pruneKey_58 : decode cX6_pruneKey 58 = .ok (.iaload, 1) := by decide +kernel
theorem dX6_pruneKey_59 : decode cX6_pruneKey 59 = .ok (.iconst (-1), 1) := by decide +kernel
theorem dX6_pruneKey_60 : decode cX6_pruneKey 60 = .ok (.if_icmp .ne 16, 3) := by decide +kernel
theorem dX6_pruneKey_63 : decode cX6_pruneKey 63 = .ok (.iload_n 2, 1) := by decide +kernel
theorem dX6_pruneKey_64 : decode cX6_pruneKey 64 = .ok (.iload 6, 2) := by decide +kernel
theorem dX6_pruneKey_66 : decode cX6_pruneKey 66 = .ok (.iadd, 1) := by decide +kernel
theorem dX6_pruneKey_67 : decode cX6_pruneKey 67 = .ok (.iload 4, 2) := by decide +kernel
theorem dX6_pruneKey_69 : decode cX6_pruneKey 69 = .ok (.if_icmp .ge 7, 3) := by decide +kernel
theorem dX6_pruneKey_72 : decode cX6_pruneKey 72 = .ok (.iconst 1, 1) := by decide +kernel
theorem dX6_pruneKey_73 : decode cX6_pruneKey 73 = .ok (.goto 4, 3) := by decide +kernel
theorem dX6_pruneKey_76 : decode cX6_pruneKey 76 = .ok (.iconst 0, 1) := by decide +kernel
theorem dX6_pruneKey_77 : decode cX6_pruneKey 77 = .ok (.istore 7, 2) := by decide +kernel
theorem dX6_pruneKey_79 : decode cX6_pruneKey 79 = .ok (.iload 7, 2) := by decide +kernel
theorem dX6_pruneKey_81 : decode cX6_pruneKey 81 = .ok (.ifCond .ne 18, 3) := by decide +kernel
theorem dX6_pruneKey_84 : decode cX6_pruneKey 84 = .ok (.aload_n 0, 1) := by decide +kernel
theorem dX6_pruneKey_85 : decode cX6_pruneKey 85 = .ok (.iload_n 2, 1) := by decide +kernel
theorem dX6_pruneKey_86 : decode cX6_pruneKey 86 = .ok (.iload 6, 2) := by decide +kernel
theorem dX6_pruneKey_88 : decode cX6_pruneKey 88 = .ok (.iadd, 1) := by decide +kernel
theorem dX6_pruneKey_89 : decode cX6_pruneKey 89 = .ok (.iload_n 2, 1) := by decide +kernel
theorem dX6_pruneKey_90 : decode cX6_pruneKey 90 = .ok (.iload 5, 2) := by decide +kernel
theorem dX6_pruneKey_92 : decode cX6_pruneKey 92 = .ok (.iadd, 1) := by decide +kernel
theorem dX6_pruneKey_93 : decode cX6_pruneKey 93 = .ok (.invokevirtual 138, 3) := by decide +kernel
theorem dX6_pruneKey_96 : decode cX6_pruneKey 96 = .ok (.iinc 5 1, 3) := by decide +kernel
theorem dX6_pruneKey_99 : decode cX6_pruneKey 99 = .ok (.iinc 6 1, 3) := by decide +kernel
theorem dX6_pruneKey_102 : decode cX6_pruneKey 102 = .ok (.goto (-62), 3) := by decide +kernel
theorem dX6_pruneKey_105 : decode cX6_pruneKey 105 = .ok (.aload_n 0, 1) := by decide +kernel
theorem dX6_pruneKey_106 : decode cX6_pruneKey 106 = .ok (.getfield 11, 3) := by decide +kernel
theorem dX6_pruneKey_109 : decode cX6_pruneKey 109 = .ok (.sipush 232, 3) := by decide +kernel
theorem dX6_pruneKey_112 : decode cX6_pruneKey 112 = .ok (.iload_n 1, 1) := by decide +kernel
theorem dX6_pruneKey_113 : decode cX6_pruneKey 113 = .ok (.iadd, 1) := by decide +kernel
theorem dX6_pruneKey_114 : decode cX6_pruneKey 114 = .ok (.iload 5, 2) := by decide +kernel
theorem dX6_pruneKey_116 : decode cX6_pruneKey 116 = .ok (.iastore, 1) := by decide +kernel
theorem dX6_pruneKey_117 : decode cX6_pruneKey 117 = .ok (.iload_n 3, 1) := by decide +kernel
theorem dX6_pruneKey_118 : decode cX6_pruneKey 118 = .ok (.iload 5, 2) := by decide +kernel
theorem dX6_pruneKey_120 : decode cX6_pruneKey 120 = .ok (.isub, 1) := by decide +kernel
theorem dX6_pruneKey_121 : decode cX6_pruneKey 121 = .ok (.ireturn, 1) := by decide +kernel
def fW_pruneKey_40 (u : Nat) (a1 : Int32) (x1 : Int32) (x3 : Int32) (s4 : Int32 × Int32 × (Nat → Int32)) : Option ((Int32 × Int32 × (Nat → Int32)) ⊕ (Int32 × (Nat → Int32))) :=
  if (if (iz 9) < x1 then (iz 9) else x1) ≤ s4.2.1 then
    some (.inr (s4.1, s4.2.2))
  else
    (nx_rd 514 s4.2.2 (((iz 400) + (a1 * (iz 9))) + s4.2.1)).bind fun x5 =>
    (if x5 = (iz (-1)) then
       if x3 ≤ ((a1 * (iz 9)) + s4.2.1) then
         some (iz 0)
       else
         some (iz 1)
     else
       some (iz 0) : Option (Int32)).bind fun s6 =>
    (if s6 = iz 0 then
       (fW_moveVersion u s4.2.2 ((a1 * (iz 9)) + s4.2.1) ((a1 * (iz 9)) + s4.1)).bind fun g7 =>
       some ((s4.1 + iz 1), g7)
     else
       some (s4.1, s4.2.2) : Option (Int32 × (Nat → Int32))).bind fun s8 =>
    some (.inl (s8.1, (s4.2.1 + iz 1), s8.2))
def fW_pruneKey (u : Nat) (f : (Nat → Int32)) (a1 : Int32) : Option (Int32 × (Nat → Int32)) :=
  (nx_rd 514 f ((iz 232) + a1)).bind fun x1 =>
  (nx_rd 514 f (iz 5)).bind fun x2 =>
  (fW_lastSureSlot u f a1 x2).bind fun x3 =>
  (nx_iter u (fW_pruneKey_40 u a1 x1 x3) ((iz 0), (iz 0), f)).bind fun e9 =>
  (nx_wr 514 e9.2 ((iz 232) + a1) e9.1).bind fun f10 =>
  some (((if (iz 9) < x1 then (iz 9) else x1) - e9.1), f10)
set_option maxRecDepth 4000 in
theorem jW_pruneKey_40 {Γ : nx_G} {M0 : nx_M} {w c : Nat} (hw : M0.1 w = some (.inr (6, [.ref c]))) (hc : w ≠ c) (u : Nat) (a1 : Int32) (x1 : Int32) (x3 : Int32)   (X : nx_X) (Z : nx_Z) (s4 : Int32 × Int32 × (Nat → Int32)) : nx_J Γ X (RX6, cX6_pruneKey, 8, (some .int), "pruneKey", 2) Z (Sum.elim (fun s4 : Int32 × Int32 × (Nat → Int32) => .inl (40, [some (.ref w), some (.int a1), some (.int (a1 * (iz 9))), some (.int (if (iz 9) < x1 then (iz 9) else x1)), some (.int x3), some (.int s4.1), some (.int s4.2.1), none], [], (wW Γ M0 c s4.2.2))) (fun e9 : Int32 × (Nat → Int32) => .inl (105, [some (.ref w), some (.int a1), some (.int (a1 * (iz 9))), some (.int (if (iz 9) < x1 then (iz 9) else x1)), some (.int x3), some (.int e9.1), none, none], [], (wW Γ M0 c e9.2)))) (.inl (40, [some (.ref w), some (.int a1), some (.int (a1 * (iz 9))), some (.int (if (iz 9) < x1 then (iz 9) else x1)), some (.int x3), some (.int s4.1), some (.int s4.2.1), none], [], (wW Γ M0 c s4.2.2))) (fW_pruneKey_40 u a1 x1 x3 s4) := by
  unfold fW_pruneKey_40
  refine nx_iload rfl dX6_pruneKey_40 rfl ?_
  refine nx_iload_n rfl dX6_pruneKey_42 rfl ?_
  refine nx_icmp_ge (t := 105) dX6_pruneKey_43 (by decide) rfl ?_ ?_
  · refine nx_weak (ls' := [some (.ref w), some (.int a1), some (.int (a1 * (iz 9))), some (.int (if (iz 9) < x1 then (iz 9) else x1)), some (.int x3), some (.int s4.1), none, none]) (nx_wk_s (nx_wk_s (nx_wk_s (nx_wk_s (nx_wk_s (nx_wk_s (nx_wk_n (nx_wk_n nx_wk_e)))))))) ?_
    obtain ⟨_, _, _⟩ := s4
    exact nx_leaf rfl
  · refine nx_aload_n rfl dX6_pruneKey_46 rfl ?_
    refine nx_getf fl_6_11 ((nx_put_ne hc).trans hw) rfl dX6_pruneKey_47 rfl ?_
    refine nx_sipush (by decide +kernel) dX6_pruneKey_50 rfl ?_
    refine nx_iload_n rfl dX6_pruneKey_53 rfl ?_
    refine nx_iadd dX6_pruneKey_54 rfl ?_
    refine nx_iload rfl dX6_pruneKey_55 rfl ?_
    refine nx_iadd dX6_pruneKey_57 rfl ?_
    refine nx_iald nx_put_self dX6_pruneKey_58 rfl (fun x5 => ?_)
    refine nx_iconst dX6_pruneKey_59 rfl ?_
    refine nx_seq (C1 := fun s6 : Int32 => .inl (77, [some (.ref w), some (.int a1), some (.int (a1 * (iz 9))), some (.int (if (iz 9) < x1 then (iz 9) else x1)), some (.int x3), some (.int s4.1), some (.int s4.2.1), none], [.int s6], (wW Γ M0 c s4.2.2))) ?_ (fun s6 => ?_)
    · refine nx_icmp_ne (t := 76) dX6_pruneKey_60 (by decide) rfl ?_ ?_
      · refine nx_iconst dX6_pruneKey_76 rfl ?_
        obtain ⟨_, _, _⟩ := s4
        exact nx_leaf rfl
      · refine nx_iload_n rfl dX6_pruneKey_63 rfl ?_
        refine nx_iload rfl dX6_pruneKey_64 rfl ?_
        refine nx_iadd dX6_pruneKey_66 rfl ?_
        refine nx_iload rfl dX6_pruneKey_67 rfl ?_
        refine nx_icmp_ge (t := 76) dX6_pruneKey_69 (by decide) rfl ?_ ?_
        · refine nx_iconst dX6_pruneKey_76 rfl ?_
          obtain ⟨_, _, _⟩ := s4
          exact nx_leaf rfl
        · refine nx_iconst dX6_pruneKey_72 rfl ?_
          refine nx_goto (q := 77) dX6_pruneKey_73 (by decide) ?_
          obtain ⟨_, _, _⟩ := s4
          exact nx_leaf rfl
    refine nx_istore [some (.ref w), some (.int a1), some (.int (a1 * (iz 9))), some (.int (if (iz 9) < x1 then (iz 9) else x1)), some (.int x3), some (.int s4.1), some (.int s4.2.1), some (.int s6)] dX6_pruneKey_77 rfl (Nat.le_of_ble_eq_true rfl) rfl rfl ?_
    refine nx_iload rfl dX6_pruneKey_79 rfl ?_
    refine nx_seq (C1 := fun s8 : Int32 × (Nat → Int32) => .inl (99, [some (.ref w), some (.int a1), some (.int (a1 * (iz 9))), some (.int (if (iz 9) < x1 then (iz 9) else x1)), some (.int x3), some (.int s8.1), some (.int s4.2.1), some (.int s6)], [], (wW Γ M0 c s8.2))) ?_ (fun s8 => ?_)
    · refine nx_if_ne (t := 99) dX6_pruneKey_81 (by decide) rfl ?_ ?_
      · obtain ⟨_, _, _⟩ := s4
        exact nx_leaf rfl
      · refine nx_aload_n rfl dX6_pruneKey_84 rfl ?_
        refine nx_iload_n rfl dX6_pruneKey_85 rfl ?_
        refine nx_iload rfl dX6_pruneKey_86 rfl ?_
        refine nx_iadd dX6_pruneKey_88 rfl ?_
        refine nx_iload_n rfl dX6_pruneKey_89 rfl ?_
        refine nx_iload rfl dX6_pruneKey_90 rfl ?_
        refine nx_iadd dX6_pruneKey_92 rfl ?_
        refine nx_callVv [.int ((a1 * (iz 9)) + s4.2.1), .int ((a1 * (iz 9)) + s4.1)] (fun r => (wW Γ M0 c r)) cw_6_138 cv_X6_moveVersion (fun r e => cW_moveVersion X.2.1 hw hc e) ((nx_put_ne hc).trans hw) rfl rfl (Nat.le_of_ble_eq_true rfl) (Nat.le_of_ble_eq_true rfl) dX6_pruneKey_93 rfl (fun g7 => ?_)
        refine nx_iinc [some (.ref w), some (.int a1), some (.int (a1 * (iz 9))), some (.int (if (iz 9) < x1 then (iz 9) else x1)), some (.int x3), some (.int (s4.1 + iz 1)), some (.int s4.2.1), some (.int s6)] dX6_pruneKey_96 rfl rfl (Nat.le_of_ble_eq_true rfl) rfl rfl ?_
        obtain ⟨_, _, _⟩ := s4
        exact nx_leaf rfl
    refine nx_iinc [some (.ref w), some (.int a1), some (.int (a1 * (iz 9))), some (.int (if (iz 9) < x1 then (iz 9) else x1)), some (.int x3), some (.int s8.1), some (.int (s4.2.1 + iz 1)), some (.int s6)] dX6_pruneKey_99 rfl rfl (Nat.le_of_ble_eq_true rfl) rfl rfl ?_
    refine nx_goto (q := 40) dX6_pruneKey_102 (by decide) ?_
    refine nx_weak (ls' := [some (.ref w), some (.int a1), some (.int (a1 * (iz 9))), some (.int (if (iz 9) < x1 then (iz 9) else x1)), some (.int x3), some (.int s8.1), some (.int (s4.2.1 + iz 1)), none]) (nx_wk_s (nx_wk_s (nx_wk_s (nx_wk_s (nx_wk_s (nx_wk_s (nx_wk_s (nx_wk_n nx_wk_e)))))))) ?_
    obtain ⟨_, _, _⟩ := s4
    obtain ⟨_, _⟩ := s8
    exact nx_leaf rfl
set_option maxRecDepth 4000 in
theorem jW_pruneKey {Γ : nx_G} {M0 : nx_M} {w c : Nat} (hw : M0.1 w = some (.inr (6, [.ref c]))) (hc : w ≠ c) (u : Nat) (f : (Nat → Int32)) (a1 : Int32)   (X : nx_X) (Z : nx_Z) : nx_J Γ X (RX6, cX6_pruneKey, 8, (some .int), "pruneKey", 2) Z (fun r0 : Int32 × (Nat → Int32) => .inr (some (.int r0.1), (wW Γ M0 c r0.2))) (.inl (0, [some (.ref w), some (.int a1), none, none, none, none, none, none], [], (wW Γ M0 c f))) (fW_pruneKey u f a1) := by
  unfold fW_pruneKey
  refine nx_iload_n rfl dX6_pruneKey_0 rfl ?_
  refine nx_bipush (by decide +kernel) dX6_pruneKey_1 rfl ?_
  refine nx_imul dX6_pruneKey_3 rfl ?_
  refine nx_istore_n [some (.ref w), some (.int a1), some (.int (a1 * (iz 9))), none, none, none, none, none] dX6_pruneKey_4 rfl (Nat.le_of_ble_eq_true rfl) rfl rfl ?_
  refine nx_aload_n rfl dX6_pruneKey_5 rfl ?_
  refine nx_getf fl_6_11 ((nx_put_ne hc).trans hw) rfl dX6_pruneKey_6 rfl ?_
  refine nx_sipush (by decide +kernel) dX6_pruneKey_9 rfl ?_
  refine nx_iload_n rfl dX6_pruneKey_12 rfl ?_
  refine nx_iadd dX6_pruneKey_13 rfl ?_
  refine nx_iald nx_put_self dX6_pruneKey_14 rfl (fun x1 => ?_)
  refine nx_bipush (by decide +kernel) dX6_pruneKey_15 rfl ?_
  refine nx_min wd_663 wd_645 wd_206 wd_646 (Nat.le_of_ble_eq_true rfl) (Nat.le_of_ble_eq_true rfl) dX6_pruneKey_17 rfl ?_
  refine nx_istore_n [some (.ref w), some (.int a1), some (.int (a1 * (iz 9))), some (.int (if (iz 9) < x1 then (iz 9) else x1)), none, none, none, none] dX6_pruneKey_20 rfl (Nat.le_of_ble_eq_true rfl) rfl rfl ?_
  refine nx_aload_n rfl dX6_pruneKey_21 rfl ?_
  refine nx_iload_n rfl dX6_pruneKey_22 rfl ?_
  refine nx_aload_n rfl dX6_pruneKey_23 rfl ?_
  refine nx_getf fl_6_11 ((nx_put_ne hc).trans hw) rfl dX6_pruneKey_24 rfl ?_
  refine nx_iconst dX6_pruneKey_27 rfl ?_
  refine nx_iald nx_put_self dX6_pruneKey_28 rfl (fun x2 => ?_)
  refine nx_callVr [.int a1, .int x2] (fun r => .int r) (fun _ => (wW Γ M0 c f)) cw_6_174 cv_X6_lastSureSlot (fun r e => cW_lastSureSlot X.2.1 hw hc e) ((nx_put_ne hc).trans hw) rfl rfl (Nat.le_of_ble_eq_true rfl) (Nat.le_of_ble_eq_true rfl) dX6_pruneKey_29 rfl (fun x3 => ?_)
  refine nx_istore [some (.ref w), some (.int a1), some (.int (a1 * (iz 9))), some (.int (if (iz 9) < x1 then (iz 9) else x1)), some (.int x3), none, none, none] dX6_pruneKey_32 rfl (Nat.le_of_ble_eq_true rfl) rfl rfl ?_
  refine nx_iconst dX6_pruneKey_34 rfl ?_
  refine nx_istore [some (.ref w), some (.int a1), some (.int (a1 * (iz 9))), some (.int (if (iz 9) < x1 then (iz 9) else x1)), some (.int x3), some (.int (iz 0)), none, none] dX6_pruneKey_35 rfl (Nat.le_of_ble_eq_true rfl) rfl rfl ?_
  refine nx_iconst dX6_pruneKey_37 rfl ?_
  refine nx_istore [some (.ref w), some (.int a1), some (.int (a1 * (iz 9))), some (.int (if (iz 9) < x1 then (iz 9) else x1)), some (.int x3), some (.int (iz 0)), some (.int (iz 0)), none] dX6_pruneKey_38 rfl (Nat.le_of_ble_eq_true rfl) rfl rfl ?_
  refine nx_seq (C1 := fun e9 : Int32 × (Nat → Int32) => .inl (105, [some (.ref w), some (.int a1), some (.int (a1 * (iz 9))), some (.int (if (iz 9) < x1 then (iz 9) else x1)), some (.int x3), some (.int e9.1), none, none], [], (wW Γ M0 c e9.2))) (nx_loop (C1 := fun s4 : Int32 × Int32 × (Nat → Int32) => .inl (40, [some (.ref w), some (.int a1), some (.int (a1 * (iz 9))), some (.int (if (iz 9) < x1 then (iz 9) else x1)), some (.int x3), some (.int s4.1), some (.int s4.2.1), none], [], (wW Γ M0 c s4.2.2))) (fun s4 => jW_pruneKey_40 hw hc u a1 x1 x3 X Z s4) ((iz 0), (iz 0), f)) (fun e9 => ?_)
  refine nx_aload_n rfl dX6_pruneKey_105 rfl ?_
  refine nx_getf fl_6_11 ((nx_put_ne hc).trans hw) rfl dX6_pruneKey_106 rfl ?_
  refine nx_sipush (by decide +kernel) dX6_pruneKey_109 rfl ?_
  refine nx_iload_n rfl dX6_pruneKey_112 rfl ?_
  refine nx_iadd dX6_pruneKey_113 rfl ?_
  refine nx_iload rfl dX6_pruneKey_114 rfl ?_
  refine w_iast dX6_pruneKey_116 rfl (fun f10 => ?_)
  refine nx_iload_n rfl dX6_pruneKey_117 rfl ?_
  refine nx_iload rfl dX6_pruneKey_118 rfl ?_
  refine nx_isub dX6_pruneKey_120 rfl ?_
  exact nx_iret dX6_pruneKey_121 rfl rfl
theorem cW_pruneKey (l : Launch) {Γ : nx_G} {M0 : nx_M} {w c : Nat} (hw : M0.1 w = some (.inr (6, [.ref c]))) (hc : w ≠ c) {u : Nat} {f : (Nat → Int32)} {a1 : Int32} {r : Int32 × (Nat → Int32)}  (h : fW_pruneKey u f a1 = some r) : nx_Ct l Γ 2 yX6_pruneKey cX6_pruneKey 8 (some .int) [.ref w, .int a1] (wW Γ M0 c f) (some (.int r.1), (wW Γ M0 c r.2)) :=
  nx_ct (out := fun r0 : Int32 × (Nat → Int32) => (some (.int r0.1), (wW Γ M0 c r0.2))) [some (.ref w), some (.int a1), none, none, none, none, none, none] pn_RX6 h (Nat.le_of_ble_eq_true rfl) rfl (fun X Z _ => jW_pruneKey hw hc u f a1 X Z)
theorem dX6_pruneAll_0 : decode cX6_pruneAll 0 = .ok (.aload_n 0, 1) := by decide +kernel
theorem dX6_pruneAll_1 : decode cX6_pruneAll 1 = .ok (.invokevirtual 168, 3) := by decide +kernel
theorem dX6_pruneAll_4 : decode cX6_pruneAll 4 = .ok (.istore_n 1, 1) := by decide +kernel
theorem dX6_pruneAll_5 : decode cX6_pruneAll 5 = .ok (.iload_n 1, 1) := by decide +kernel
theorem dX6_pruneAll_6 : decode cX6_pruneAll 6 = .ok (.bipush 8, 2) := by decide +kernel
theorem dX6_pruneAll_8 : decode cX6_pruneAll 8 = .ok (.invokestatic 33, 3) := by decide +kernel
theorem dX6_pruneAll_11 : decode cX6_pruneAll 11 = .ok (.ifCond .eq 15, 3) := by decide +kernel
theorem dX6_pruneAll_14 : decode cX6_pruneAll 14 = .ok (.aload_n 0, 1) := by decide +kernel
theorem dX6_pruneAll_15 : decode cX6_pruneAll 15 = .ok (.getfield 11, 3) := by decide +kernel
theorem dX6_pruneAll_18 : decode cX6_pruneAll 18 = .ok (.bipush 48, 2) := by decide +kernel
theorem dX6_pruneAll_20 : decode cX6_pruneAll 20 = .ok (.iload_n 1, 1) := by decide +kernel
theorem dX6_pruneAll_21 : decode cX6_pruneAll 21 = .ok (.iadd, 1) := by decide +kernel
theorem dX6_pruneAll_22 : decode cX6_pruneAll 22 = .ok (.iaload, 1) := by decide +kernel
theorem dX6_pruneAll_23 : decode cX6_pruneAll 23 = .ok (.goto 9, 3) := by decide +kernel
theorem dX6_pruneAll_26 : decode cX6_pruneAll 26 = .ok (.aload_n 0, 1) := by decide +kernel
theorem dX6_pruneAll_27 : decode cX6_pruneAll 27 = .ok (.getfield 11, 3) := by decide +kernel
theorem dX6_pruneAll_30 : decode cX6_pruneAll 30 = .ok (.iconst 4, 1) := by decide +kernel
theorem dX6_pruneAll_31 : decode cX6_pruneAll 31 = .ok (.iaload, 1) := by decide +kernel
theorem dX6_pruneAll_32 : decode cX6_pruneAll 32 = .ok (.istore_n 2, 1) := by decide +kernel
theorem dX6_pruneAll_33 : decode cX6_pruneAll 33 = .ok (.aload_n 0, 1) := by decide +kernel
theorem dX6_pruneAll_34 : decode cX6_pruneAll 34 = .ok (.getfield 11, 3) := by decide +kernel
theorem dX6_pruneAll_37 : decode cX6_pruneAll 37 = .ok (.iconst 5, 1) := by decide +kernel
theorem dX6_pruneAll_38 : decode cX6_pruneAll 38 = .ok (.aload_n 0, 1) := by decide +kernel
theorem dX6_pruneAll_39 : decode cX6_pruneAll 39 = .ok (.getfield 11, 3) := by decide +kernel
theorem dX6_pruneAll_42 : decode cX6_pruneAll 42 = .ok (.iconst 5, 1) := by decide +kernel
theorem dX6_pruneAll_43 : decode cX6_pruneAll 43 = .ok (.iaload, 1) := by decide +kernel
theorem dX6_pruneAll_44 : decode cX6_pruneAll 44 = .ok (.iload_n 2, 1) := by decide +kernel
theorem dX6_pruneAll_45 : decode cX6_pruneAll 45 = .ok (.invokestatic 129, 3) := by decide +kernel
theorem dX6_pruneAll_48 : decode cX6_pruneAll 48 = .ok (.iastore, 1) := by decide +kernel
theorem dX6_pruneAll_49 : decode cX6_pruneAll 49 = .ok (.iconst 0, 1) := by decide +kernel
theorem dX6_pruneAll_50 : decode cX6_pruneAll 50 = .ok (.istore_n 3, 1) := by decide +kernel
theorem dX6_pruneAll_51 : decode cX6_pruneAll 51 = .ok (.iconst 0, 1) := by decide +kernel
theorem dX6_pruneAll_52 : decode cX6_pruneAll 52 = .ok (.istore 4, 2) := by decide +kernel
theorem dX6_pruneAll_54 : decode cX6_pruneAll 54 = .ok (.iload 4, 2) := by decide +kernel
theorem dX6_pruneAll_56 : decode cX6_pruneAll 56 = .ok (.bipush 6, 2) := by decide +kernel
theorem dX6_pruneAll_58 : decode cX6_pruneAll 58 = .ok (.if_icmp .ge 18, 3) := by decide +kernel
theorem dX6_pruneAll_61 : decode cX6_pruneAll 61 = .ok (.iload_n 3, 1) := by decide +kernel
theorem dX6_pruneAll_62 : decode cX6_pruneAll 62 = .ok (.aload_n 0, 1) := by decide +kernel
theorem dX6_pruneAll_63 : decode cX6_pruneAll 63 = .ok (.iload 4, 2) := by decide +kernel
theorem dX6_pruneAll_65 : decode cX6_pruneAll 65 = .ok (.invokevirtual 171, 3) := by decide +kernel
theorem dX6_pruneAll_68 : decode cX6_pruneAll 68 = .ok (.iadd, 1) := by decide +kernel
theorem dX6_pruneAll_69 : decode cX6_pruneAll 69 = .ok (.istore_n 3, 1) := by decide +kernel
theorem dX6_pruneAll_70 : decode cX6_pruneAll 70 = .ok (.iinc 4 1, 3) := by decide +kernel
theorem dX6_pruneAll_73 : decode cX6_pruneAll 73 = .ok (.goto (-19), 3) := by decide +kernel
theorem dX6_pruneAll_76 : decode cX6_pruneAll 76 = .ok (.aload_n 0, 1) := by decide +kernel
theorem dX6_pruneAll_77 : decode cX6_pruneAll 77 = .ok (.bipush 6, 2) := by decide +kernel
theorem dX6_pruneAll_79 : decode cX6_pruneAll 79 = .ok (.iconst (-1), 1) := by decide +kernel
theorem dX6_pruneAll_80 : decode cX6_pruneAll 80 = .ok (.iload_n 3, 1) := by decide +kernel
theorem dX6_pruneAll_81 : decode cX6_pruneAll 81 = .ok (.invokevirtual 115, 3) := by decide +kernel
theorem dX6_pruneAll_84 : decode cX6_pruneAll 84 = .ok (.iload_n 3, 1) := by decide +kernel
theorem dX6_pruneAll_85 : decode cX6_pruneAll 85 = .ok (.ireturn, 1) := by decide +kernel
def fW_pruneAll_54 (u : Nat) (s8 : Int32 × Int32 × (Nat → Int32)) : Option ((Int32 × Int32 × (Nat → Int32)) ⊕ (Int32 × (Nat → Int32))) :=
  if (iz 6) ≤ s8.2.1 then
    some (.inr (s8.1, s8.2.2))
  else
    (fW_pruneKey u s8.2.2 s8.2.1).bind fun p9 =>
    some (.inl ((s8.1 + p9.1), (s8.2.1 + iz 1), p9.2))
def fW_pruneAll (u : Nat) (f : (Nat → Int32)) : Option (Int32 × (Nat → Int32)) :=
  (fW_oldestSeat u f).bind fun x1 =>
  (fL_within u x1 (iz 8)).bind fun b2 =>
  (if b2 = true then
     (nx_rd 514 f ((iz 48) + x1)).bind fun x4 =>
     some x4
   else
     (nx_rd 514 f (iz 4)).bind fun x3 =>
     some x3 : Option (Int32)).bind fun s5 =>
  (nx_rd 514 f (iz 5)).bind fun x6 =>
  (nx_wr 514 f (iz 5) (if x6 < s5 then s5 else x6)).bind fun f7 =>
  (nx_iter u (fW_pruneAll_54 u) ((iz 0), (iz 0), f7)).bind fun e10 =>
  (fW_note u e10.2 (iz 6) (iz (-1)) e10.1).bind fun g11 =>
  some (e10.1, g11)
set_option maxRecDepth 4000 in
theorem jW_pruneAll_54 {Γ : nx_G} {M0 : nx_M} {w c : Nat} (hw : M0.1 w = some (.inr (6, [.ref c]))) (hc : w ≠ c) (u : Nat) (x1 : Int32) (s5 : Int32)   (X : nx_X) (Z : nx_Z) (s8 : Int32 × Int32 × (Nat → Int32)) : nx_J Γ X (RX6, cX6_pruneAll, 5, (some .int), "pruneAll", 3) Z (Sum.elim (fun s8 : Int32 × Int32 × (Nat → Int32) => .inl (54, [some (.ref w), some (.int x1), some (.int s5), some (.int s8.1), some (.int s8.2.1)], [], (wW Γ M0 c s8.2.2))) (fun e10 : Int32 × (Nat → Int32) => .inl (76, [some (.ref w), some (.int x1), some (.int s5), some (.int e10.1), none], [], (wW Γ M0 c e10.2)))) (.inl (54, [some (.ref w), some (.int x1), some (.int s5), some (.int s8.1), some (.int s8.2.1)], [], (wW Γ M0 c s8.2.2))) (fW_pruneAll_54 u s8) := by
  unfold fW_pruneAll_54
  refine nx_iload rfl dX6_pruneAll_54 rfl ?_
  refine nx_bipush (by decide +kernel) dX6_pruneAll_56 rfl ?_
  refine nx_icmp_ge (t := 76) dX6_pruneAll_58 (by decide) rfl ?_ ?_
  · refine nx_weak (ls' := [some (.ref w), some (.int x1), some (.int s5), some (.int s8.1), none]) (nx_wk_s (nx_wk_s (nx_wk_s (nx_wk_s (nx_wk_n nx_wk_e))))) ?_
    obtain ⟨_, _, _⟩ := s8
    exact nx_leaf rfl
  · refine nx_iload_n rfl dX6_pruneAll_61 rfl ?_
    refine nx_aload_n rfl dX6_pruneAll_62 rfl ?_
    refine nx_iload rfl dX6_pruneAll_63 rfl ?_
    refine nx_callVr [.int s8.2.1] (fun r => .int r.1) (fun r => (wW Γ M0 c r.2)) cw_6_171 cv_X6_pruneKey (fun r e => cW_pruneKey X.2.1 hw hc e) ((nx_put_ne hc).trans hw) rfl rfl (Nat.le_of_ble_eq_true rfl) (Nat.le_of_ble_eq_true rfl) dX6_pruneAll_65 rfl (fun p9 => ?_)
    refine nx_iadd dX6_pruneAll_68 rfl ?_
    refine nx_istore_n [some (.ref w), some (.int x1), some (.int s5), some (.int (s8.1 + p9.1)), some (.int s8.2.1)] dX6_pruneAll_69 rfl (Nat.le_of_ble_eq_true rfl) rfl rfl ?_
    refine nx_iinc [some (.ref w), some (.int x1), some (.int s5), some (.int (s8.1 + p9.1)), some (.int (s8.2.1 + iz 1))] dX6_pruneAll_70 rfl rfl (Nat.le_of_ble_eq_true rfl) rfl rfl ?_
    refine nx_goto (q := 54) dX6_pruneAll_73 (by decide) ?_
    obtain ⟨_, _, _⟩ := s8
    obtain ⟨_, _⟩ := p9
    exact nx_leaf rfl
set_option maxRecDepth 4000 in
theorem jW_pruneAll {Γ : nx_G} {M0 : nx_M} {w c : Nat} (hw : M0.1 w = some (.inr (6, [.ref c]))) (hc : w ≠ c) (u : Nat) (f : (Nat → Int32))   (X : nx_X) (Z : nx_Z) : nx_J Γ X (RX6, cX6_pruneAll, 5, (some .int), "pruneAll", 3) Z (fun r0 : Int32 × (Nat → Int32) => .inr (some (.int r0.1), (wW Γ M0 c r0.2))) (.inl (0, [some (.ref w), none, none, none, none], [], (wW Γ M0 c f))) (fW_pruneAll u f) := by
  unfold fW_pruneAll
  refine nx_aload_n rfl dX6_pruneAll_0 rfl ?_
  refine nx_callVr [] (fun r => .int r) (fun _ => (wW Γ M0 c f)) cw_6_168 cv_X6_oldestSeat (fun r e => cW_oldestSeat X.2.1 hw hc e) ((nx_put_ne hc).trans hw) rfl rfl (Nat.le_of_ble_eq_true rfl) (Nat.le_of_ble_eq_true rfl) dX6_pruneAll_1 rfl (fun x1 => ?_)
  refine nx_istore_n [some (.ref w), some (.int x1), none, none, none] dX6_pruneAll_4 rfl (Nat.le_of_ble_eq_true rfl) rfl rfl ?_
  refine nx_iload_n rfl dX6_pruneAll_5 rfl ?_
  refine nx_bipush (by decide +kernel) dX6_pruneAll_6 rfl ?_
  refine nx_callSr [.int x1, .int (iz 8)] (fun r => .int (bz r)) (fun _ => (wW Γ M0 c f)) cw_6_33 wd_442 (fun r e => cL_within X.2.1  e) rfl rfl (Nat.le_of_ble_eq_true rfl) (Nat.le_of_ble_eq_true rfl) dX6_pruneAll_8 rfl (fun b2 => ?_)
  refine nx_seq (C1 := fun s5 : Int32 => .inl (32, [some (.ref w), some (.int x1), none, none, none], [.int s5], (wW Γ M0 c f))) ?_ (fun s5 => ?_)
  · refine nx_ifz_eq (t := 26) dX6_pruneAll_11 (by decide) rfl ?_ ?_
    · refine nx_aload_n rfl dX6_pruneAll_26 rfl ?_
      refine nx_getf fl_6_11 ((nx_put_ne hc).trans hw) rfl dX6_pruneAll_27 rfl ?_
      refine nx_iconst dX6_pruneAll_30 rfl ?_
      refine nx_iald nx_put_self dX6_pruneAll_31 rfl (fun x3 => ?_)
      exact nx_leaf rfl
    · refine nx_aload_n rfl dX6_pruneAll_14 rfl ?_
      refine nx_getf fl_6_11 ((nx_put_ne hc).trans hw) rfl dX6_pruneAll_15 rfl ?_
      refine nx_bipush (by decide +kernel) dX6_pruneAll_18 rfl ?_
      refine nx_iload_n rfl dX6_pruneAll_20 rfl ?_
      refine nx_iadd dX6_pruneAll_21 rfl ?_
      refine nx_iald nx_put_self dX6_pruneAll_22 rfl (fun x4 => ?_)
      refine nx_goto (q := 32) dX6_pruneAll_23 (by decide) ?_
      exact nx_leaf rfl
  refine nx_istore_n [some (.ref w), some (.int x1), some (.int s5), none, none] dX6_pruneAll_32 rfl (Nat.le_of_ble_eq_true rfl) rfl rfl ?_
  refine nx_aload_n rfl dX6_pruneAll_33 rfl ?_
  refine nx_getf fl_6_11 ((nx_put_ne hc).trans hw) rfl dX6_pruneAll_34 rfl ?_
  refine nx_iconst dX6_pruneAll_37 rfl ?_
  refine nx_aload_n rfl dX6_pruneAll_38 rfl ?_
  refine nx_getf fl_6_11 ((nx_put_ne hc).trans hw) rfl dX6_pruneAll_39 rfl ?_
  refine nx_iconst dX6_pruneAll_42 rfl ?_
  refine nx_iald nx_put_self dX6_pruneAll_43 rfl (fun x6 => ?_)
  refine nx_iload_n rfl dX6_pruneAll_44 rfl ?_
  refine nx_max wd_684 wd_685 wd_206 wd_686 (Nat.le_of_ble_eq_true rfl) (Nat.le_of_ble_eq_true rfl) dX6_pruneAll_45 rfl ?_
  refine w_iast dX6_pruneAll_48 rfl (fun f7 => ?_)
  refine nx_iconst dX6_pruneAll_49 rfl ?_
  refine nx_istore_n [some (.ref w), some (.int x1), some (.int s5), some (.int (iz 0)), none] dX6_pruneAll_50 rfl (Nat.le_of_ble_eq_true rfl) rfl rfl ?_
  refine nx_iconst dX6_pruneAll_51 rfl ?_
  refine nx_istore [some (.ref w), some (.int x1), some (.int s5), some (.int (iz 0)), some (.int (iz 0))] dX6_pruneAll_52 rfl (Nat.le_of_ble_eq_true rfl) rfl rfl ?_
  refine nx_seq (C1 := fun e10 : Int32 × (Nat → Int32) => .inl (76, [some (.ref w), some (.int x1), some (.int s5), some (.int e10.1), none], [], (wW Γ M0 c e10.2))) (nx_loop (C1 := fun s8 : Int32 × Int32 × (Nat → Int32) => .inl (54, [some (.ref w), some (.int x1), some (.int s5), some (.int s8.1), some (.int s8.2.1)], [], (wW Γ M0 c s8.2.2))) (fun s8 => jW_pruneAll_54 hw hc u x1 s5 X Z s8) ((iz 0), (iz 0), f7)) (fun e10 => ?_)
  refine nx_aload_n rfl dX6_pruneAll_76 rfl ?_
  refine nx_bipush (by decide +kernel) dX6_pruneAll_77 rfl ?_
  refine nx_iconst dX6_pruneAll_79 rfl ?_
  refine nx_iload_n rfl dX6_pruneAll_80 rfl ?_
  refine nx_callVv [.int (iz 6), .int (iz (-1)), .int e10.1] (fun r => (wW Γ M0 c r)) cw_6_115 cv_X6_note (fun r e => cW_note X.2.1 hw hc e) ((nx_put_ne hc).trans hw) rfl rfl (Nat.le_of_ble_eq_true rfl) (Nat.le_of_ble_eq_true rfl) dX6_pruneAll_81 rfl (fun g11 => ?_)
  refine nx_iload_n rfl dX6_pruneAll_84 rfl ?_
  exact nx_iret dX6_pruneAll_85 rfl rfl
theorem cW_pruneAll (l : Launch) {Γ : nx_G} {M0 : nx_M} {w c : Nat} (hw : M0.1 w = some (.inr (6, [.ref c]))) (hc : w ≠ c) {u : Nat} {f : (Nat → Int32)} {r : Int32 × (Nat → Int32)}  (h : fW_pruneAll u f = some r) : nx_Ct l Γ 3 yX6_pruneAll cX6_pruneAll 5 (some .int) [.ref w] (wW Γ M0 c f) (some (.int r.1), (wW Γ M0 c r.2)) :=
  nx_ct (out := fun r0 : Int32 × (Nat → Int32) => (some (.int r0.1), (wW Γ M0 c r0.2))) [some (.ref w), none, none, none, none] pn_RX6 h (Nat.le_of_ble_eq_true rfl) rfl (fun X Z _ => jW_pruneAll hw hc u f X Z)
theorem dX6_lowestReady_0 : decode cX6_lowestReady 0 = .ok (.iconst 0, 1) := by decide +kernel
theorem dX6_lowestReady_1 : decode cX6_lowestReady 1 = .ok (.istore_n 1, 1) := by decide +kernel
theorem dX6_lowestReady_2 : decode cX6_lowestReady 2 = .ok (.iload_n 1, 1) := by decide +kernel
theorem dX6_lowestReady_3 : decode cX6_lowestReady 3 = .ok (.bipush 8, 2) := by decide +kernel
theorem dX6_lowestReady_5 : decode cX6_lowestReady 5 = .ok (.if_icmp .ge 36, 3) := by decide +kernel
theorem dX6_lowestReady_8 : decode cX6_lowestReady 8 = .ok (.aload_n 0, 1) := by decide +kernel
theorem dX6_lowestReady_9 : decode cX6_lowestReady 9 = .ok (.getfield 11, 3) := by decide +kernel
theorem dX6_lowestReady_12 : decode cX6_lowestReady 12 = .ok (.bipush 40, 2) := by decide +kernel
theorem dX6_lowestReady_14 : decode cX6_lowestReady 14 = .ok (.iload_n 1, 1) := by decide +kernel
theorem dX6_lowestReady_15 : decode cX6_lowestReady 15 = .ok (.iadd, 1) := by decide +kernel
theorem dX6_lowestReady_16 : decode cX6_lowestReady 16 = .ok (.iaload, 1) := by decide +kernel
theorem dX6_lowestReady_17 : decode cX6_lowestReady 17 = .ok (.iconst 2, 1) := by decide +kernel
theorem dX6_lowestReady_18 : decode cX6_lowestReady 18 = .ok (.if_icmp .ne 17, 3) := by decide +kernel
theorem dX6_lowestReady_21 : decode cX6_lowestReady 21 = .ok (.aload_n 0, 1) := by decide +kernel
theorem dX6_lowestReady_22 : decode cX6_lowestReady 22 = .ok (.getfield 11, 3) := by decide +kernel
theorem dX6_lowestReady_25 : decode cX6_lowestReady 25 = .ok (.bipush 64, 2) := by decide +kernel
theorem dX6_lowestReady_27 : decode cX6_lowestReady 27 = .ok (.iload_n 1, 1) := by decide +kernel
theorem dX6_lowestReady_28 : decode cX6_lowestReady 28 = .ok (.iadd, 1) := by decide +kernel
theorem dX6_lowestReady_29 : decode cX6_lowestReady 29 = .ok (.iaload, 1) := by decide +kernel
theorem dX6_lowestReady_30 : decode cX6_lowestReady 30 = .ok (.ifCond .ne 5, 3) := by decide +kernel
theorem dX6_lowestReady_33 : decode cX6_lowestReady 33 = .ok (.iload_n 1, 1) := by decide +kernel
theorem dX6_lowestReady_34 : decode cX6_lowestReady 34 = .ok (.ireturn, 1) := by decide +kernel
theorem dX6_lowestReady_35 : decode cX6_lowestReady 35 = .ok (.iinc 1 1, 3) := by decide +kernel
theorem dX6_lowestReady_38 : decode cX6_lowestReady 38 = .ok (.goto (-36), 3) := by decide +kernel
theorem dX6_lowestReady_41 : decode cX6_lowestReady 41 = .ok (.iconst (-1), 1) := by decide +kernel
theorem dX6_lowestReady_42 : decode cX6_lowestReady 42 = .ok (.ireturn, 1) := by decide +kernel
def fW_lowestReady_2 (f : (Nat → Int32)) (s1 : Int32) : Option ((Int32) ⊕ ((Unit) ⊕ (Int32))) :=
  if (iz 8) ≤ s1 then
    some (.inr (.inl ()))
  else
    (nx_rd 514 f ((iz 40) + s1)).bind fun x2 =>
    if x2 = (iz 2) then
      (nx_rd 514 f ((iz 64) + s1)).bind fun x3 =>
      if x3 = iz 0 then
        some (.inr (.inr s1))
      else
        some (.inl (s1 + iz 1))
    else
      some (.inl (s1 + iz 1))
def fW_lowestReady (u : Nat) (f : (Nat → Int32)) : Option (Int32) :=
  (nx_iter u (fW_lowestReady_2 f) (iz 0)).bind (Sum.elim (fun e4 =>
    some (iz (-1)))
    (fun r0 => some r0))
set_option maxRecDepth 4000 in
theorem jW_lowestReady_2 {Γ : nx_G} {M0 : nx_M} {w c : Nat} (hw : M0.1 w = some (.inr (6, [.ref c]))) (hc : w ≠ c) (f : (Nat → Int32))   (X : nx_X) (Z : nx_Z) (s1 : Int32) : nx_J Γ X (RX6, cX6_lowestReady, 2, (some .int), "lowestReady", 1) Z (Sum.elim (fun s1 : Int32 => .inl (2, [some (.ref w), some (.int s1)], [], (wW Γ M0 c f))) (Sum.elim (fun e4 : Unit => .inl (41, [some (.ref w), none], [], (wW Γ M0 c f))) (fun r0 : Int32 => .inr (some (.int r0), (wW Γ M0 c f))))) (.inl (2, [some (.ref w), some (.int s1)], [], (wW Γ M0 c f))) (fW_lowestReady_2 f s1) := by
  unfold fW_lowestReady_2
  refine nx_iload_n rfl dX6_lowestReady_2 rfl ?_
  refine nx_bipush (by decide +kernel) dX6_lowestReady_3 rfl ?_
  refine nx_icmp_ge (t := 41) dX6_lowestReady_5 (by decide) rfl ?_ ?_
  · refine nx_weak (ls' := [some (.ref w), none]) (nx_wk_s (nx_wk_n nx_wk_e)) ?_
    exact nx_leaf rfl
  · refine nx_aload_n rfl dX6_lowestReady_8 rfl ?_
    refine nx_getf fl_6_11 ((nx_put_ne hc).trans hw) rfl dX6_lowestReady_9 rfl ?_
    refine nx_bipush (by decide +kernel) dX6_lowestReady_12 rfl ?_
    refine nx_iload_n rfl dX6_lowestReady_14 rfl ?_
    refine nx_iadd dX6_lowestReady_15 rfl ?_
    refine nx_iald nx_put_self dX6_lowestReady_16 rfl (fun x2 => ?_)
    refine nx_iconst dX6_lowestReady_17 rfl ?_
    refine nx_icmp_ne (t := 35) dX6_lowestReady_18 (by decide) rfl ?_ ?_
    · refine nx_iinc [some (.ref w), some (.int (s1 + iz 1))] dX6_lowestReady_35 rfl rfl (Nat.le_of_ble_eq_true rfl) rfl rfl ?_
      refine nx_goto (q := 2) dX6_lowestReady_38 (by decide) ?_
      exact nx_leaf rfl
    · refine nx_aload_n rfl dX6_lowestReady_21 rfl ?_
      refine nx_getf fl_6_11 ((nx_put_ne hc).trans hw) rfl dX6_lowestReady_22 rfl ?_
      refine nx_bipush (by decide +kernel) dX6_lowestReady_25 rfl ?_
      refine nx_iload_n rfl dX6_lowestReady_27 rfl ?_
      refine nx_iadd dX6_lowestReady_28 rfl ?_
      refine nx_iald nx_put_self dX6_lowestReady_29 rfl (fun x3 => ?_)
      refine nx_if_ne (t := 35) dX6_lowestReady_30 (by decide) rfl ?_ ?_
      · refine nx_iinc [some (.ref w), some (.int (s1 + iz 1))] dX6_lowestReady_35 rfl rfl (Nat.le_of_ble_eq_true rfl) rfl rfl ?_
        refine nx_goto (q := 2) dX6_lowestReady_38 (by decide) ?_
        exact nx_leaf rfl
      · refine nx_iload_n rfl dX6_lowestReady_33 rfl ?_
        exact nx_iret dX6_lowestReady_34 rfl rfl
set_option maxRecDepth 4000 in
theorem jW_lowestReady {Γ : nx_G} {M0 : nx_M} {w c : Nat} (hw : M0.1 w = some (.inr (6, [.ref c]))) (hc : w ≠ c) (u : Nat) (f : (Nat → Int32))   (X : nx_X) (Z : nx_Z) : nx_J Γ X (RX6, cX6_lowestReady, 2, (some .int), "lowestReady", 1) Z (fun r0 : Int32 => .inr (some (.int r0), (wW Γ M0 c f))) (.inl (0, [some (.ref w), none], [], (wW Γ M0 c f))) (fW_lowestReady u f) := by
  unfold fW_lowestReady
  refine nx_iconst dX6_lowestReady_0 rfl ?_
  refine nx_istore_n [some (.ref w), some (.int (iz 0))] dX6_lowestReady_1 rfl (Nat.le_of_ble_eq_true rfl) rfl rfl ?_
  refine nx_seqS (Ca := fun e4 : Unit => .inl (41, [some (.ref w), none], [], (wW Γ M0 c f))) (Cb := fun r0 : Int32 => .inr (some (.int r0), (wW Γ M0 c f))) (nx_loop (C1 := fun s1 : Int32 => .inl (2, [some (.ref w), some (.int s1)], [], (wW Γ M0 c f))) (fun s1 => jW_lowestReady_2 hw hc f X Z s1) (iz 0)) (fun e4 => ?_) (fun r0 => ?_)
  · refine nx_iconst dX6_lowestReady_41 rfl ?_
    exact nx_iret dX6_lowestReady_42 rfl rfl
  · exact nx_leaf rfl
theorem cW_lowestReady (l : Launch) {Γ : nx_G} {M0 : nx_M} {w c : Nat} (hw : M0.1 w = some (.inr (6, [.ref c]))) (hc : w ≠ c) {u : Nat} {f : (Nat → Int32)} {r : Int32}  (h : fW_lowestReady u f = some r) : nx_Ct l Γ 1 yX6_lowestReady cX6_lowestReady 2 (some .int) [.ref w] (wW Γ M0 c f) (some (.int r), (wW Γ M0 c f)) :=
  nx_ct (out := fun r0 : Int32 => (some (.int r0), (wW Γ M0 c f))) [some (.ref w), none] pn_RX6 h (Nat.le_of_ble_eq_true rfl) rfl (fun X Z _ => jW_lowestReady hw hc u f X Z)
theorem dX6_commitAt_0 : decode cX6_commitAt 0 = .ok (.aload_n 0, 1) := by decide +kernel
theorem dX6_commitAt_1 : decode cX6_commitAt 1 = .ok (.getfield 11, 3) := by decide +kernel
theorem dX6_commitAt_4 : decode cX6_commitAt 4 = .ok (.bipush 72, 2) := by decide +kernel
theorem dX6_commitAt_6 : decode cX6_commitAt 6 = .ok (.iload_n 1, 1) := by decide +kernel
theorem dX6_commitAt_7 : decode cX6_commitAt 7 = .ok (.iadd, 1) := by decide +kernel
theorem dX6_commitAt_8 : decode cX6_commitAt 8 = .ok (.iaload, 1) := by decide +kernel
theorem dX6_commitAt_9 : decode cX6_commitAt 9 = .ok (.ifCond .eq 12, 3) := by decide +kernel
theorem dX6_commitAt_12 : decode cX6_commitAt 12 = .ok (.aload_n 0, 1) := by decide +kernel
theorem dX6_commitAt_13 : decode cX6_commitAt 13 = .ok (.iload_n 1, 1) := by decide +kernel
theorem dX6_commitAt_14 : decode cX6_commitAt 14 = .ok (.invokevirtual 109, 3) := by decide +kernel
theorem dX6_commitAt_17 : decode cX6_commitAt 17 = .ok (.pop, 1) := by decide +kernel
theorem dX6_commitAt_18 : decode cX6_commitAt 18 = .ok (.bipush (-2), 2) := by decide +kernel
theorem dX6_commitAt_20 : decode cX6_commitAt 20 = .ok (.ireturn, 1) := by decide +kernel
theorem dX6_commitAt_21 : decode cX6_commitAt 21 = .ok (.aload_n 0, 1) := by decide +kernel
theorem dX6_commitAt_22 : decode cX6_commitAt 22 = .ok (.getfield 11, 3) := by decide +kernel
theorem dX6_commitAt_25 : decode cX6_commitAt 25 = .ok (.bipush 40, 2) := by decide +kernel
theorem dX6_commitAt_27 : decode cX6_commitAt 27 = .ok (.iload_n 1, 1) := by decide +kernel
theorem dX6_commitAt_28 : decode cX6_commitAt 28 = .ok (.iadd, 1) := by decide +kernel
theorem dX6_commitAt_29 : decode cX6_commitAt 29 = .ok (.iconst 2, 1) := by decide +kernel
theorem dX6_commitAt_30 : decode cX6_commitAt 30 = .ok (.iastore, 1) := by decide +kernel
theorem dX6_commitAt_31 : decode cX6_commitAt 31 = .ok (.aload_n 0, 1) := by decide +kernel
theorem dX6_commitAt_32 : decode cX6_commitAt 32 = .ok (.iconst 3, 1) := by decide +kernel
theorem dX6_commitAt_33 : decode cX6_commitAt 33 = .ok (.iload_n 1, 1) := by decide +kernel
theorem dX6_commitAt_34 : decode cX6_commitAt 34 = .ok (.aload_n 0, 1) := by decide +kernel
theorem dX6_commitAt_35 : decode cX6_commitAt 35 = .ok (.getfield 11, 3) := by decide +kernel
theorem dX6_commitAt_38 : decode cX6_commitAt 38 = .ok (.bipush 48, 2) := by decide +kernel
theorem dX6_commitAt_40 : decode cX6_commitAt 40 = .ok (.iload_n 1, 1) := by decide +kernel
theorem dX6_commitAt_41 : decode cX6_commitAt 41 = .ok (.iadd, 1) := by decide +kernel
theorem dX6_commitAt_42 : decode cX6_commitAt 42 = .ok (.iaload, 1) := by decide +kernel
theorem dX6_commitAt_43 : decode cX6_commitAt 43 = .ok (.invokevirtual 115, 3) := by decide +kernel
theorem dX6_commitAt_46 : decode cX6_commitAt 46 = .ok (.aload_n 0, 1) := by decide +kernel
theorem dX6_commitAt_47 : decode cX6_commitAt 47 = .ok (.getfield 11, 3) := by decide +kernel
theorem dX6_commitAt_50 : decode cX6_commitAt 50 = .ok (.bipush 64, 2) := by decide +kernel
theorem dX6_commitAt_52 : decode cX6_commitAt 52 = .ok (.iload_n 1, 1) := by decide +kernel
theorem dX6_commitAt_53 : decode cX6_commitAt 53 = .ok (.iadd, 1) := by decide +kernel
theorem dX6_commitAt_54 : decode cX6_commitAt 54 = .ok (.iaload, 1) := by decide +kernel
theorem dX6_commitAt_55 : decode cX6_commitAt 55 = .ok (.ifCond .eq 16, 3) := by decide +kernel
theorem dX6_commitAt_58 : decode cX6_commitAt 58 = .ok (.aload_n 0, 1) := by decide +kernel
theorem dX6_commitAt_59 : decode cX6_commitAt 59 = .ok (.getfield 11, 3) := by decide +kernel
theorem dX6_commitAt_62 : decode cX6_commitAt 62 = .ok (.bipush 64, 2) := by decide +kernel
theorem dX6_commitAt_64 : decode cX6_commitAt 64 = .ok (.iload_n 1, 1) := by decide +kernel
theorem dX6_commitAt_65 : decode cX6_commitAt 65 = .ok (.iadd, 1) := by decide +kernel
theorem dX6_commitAt_66 : decode cX6_commitAt 66 = .ok (.iaload, 1) := by decide +kernel
theorem dX6_commitAt_67 : decode cX6_commitAt 67 = .ok (.invokestatic 142, 3) := by decide +kernel
theorem dX6_commitAt_70 : decode cX6_commitAt 70 = .ok (.ireturn, 1) := by decide +kernel
theorem dX6_commitAt_71 : decode cX6_commitAt 71 = .ok (.iload_n 1, 1) := by decide +kernel
theorem dX6_commitAt_72 : decode cX6_commitAt 72 = .ok (.istore_n 2, 1) := by decide +kernel
theorem dX6_commitAt_73 : decode cX6_commitAt 73 = .ok (.iconst 0, 1) := by decide +kernel
theorem dX6_commitAt_74 : decode cX6_commitAt 74 = .ok (.istore_n 3, 1) := by decide +kernel
theorem dX6_commitAt_75 : decode cX6_commitAt 75 = .ok (.iload_n 3, 1) := by decide +kernel
theorem dX6_commitAt_76 : decode cX6_commitAt 76 = .ok (.bipush 8, 2) := by decide +kernel
theorem dX6_commitAt_78 : decode cX6_commitAt 78 = .ok (.if_icmp .ge 64, 3) := by decide +kernel
theorem dX6_commitAt_81 : decode cX6_commitAt 81 = .ok (.iload_n 2, 1) := by decide +kernel
theorem dX6_commitAt_82 : decode cX6_commitAt 82 = .ok (.bipush 8, 2) := by decide +kernel
theorem dX6_commitAt_84 : decode cX6_commitAt 84 = .ok (.invokestatic 33, 3) := by decide +kernel
theorem dX6_commitAt_87 : decode cX6_commitAt 87 = .ok (.ifCond .eq 55, 3) := by decide +kernel
theorem dX6_commitAt_90 : decode cX6_commitAt 90 = .ok (.aload_n 0, 1) := by decide +kernel
theorem dX6_commitAt_91 : decode cX6_commitAt 91 = .ok (.getfield 11, 3) := by decide +kernel
theorem dX6_commitAt_94 : decode cX6_commitAt 94 = .ok (.bipush 72, 2) := by decide +kernel
theorem dX6_commitAt_96 : decode cX6_commitAt 96 = .ok (.iload_n 2, 1) := by decide +kernel
theorem dX6_commitAt_97 : decode cX6_commitAt 97 = .ok (.iadd, 1) := by decide +kernel
theorem dX6_commitAt_98 : decode cX6_commitAt 98 = .ok (.iaload, 1) := by decide +kernel
theorem dX6_commitAt_99 : decode cX6_commitAt 99 = .ok (.ifCond .eq 12, 3) := by decide +kernel
theorem dX6_commitAt_102 : decode cX6_commitAt 102 = .ok (.aload_n 0, 1) := by decide +kernel
theorem dX6_commitAt_103 : decode cX6_commitAt 103 = .ok (.iload_n 2, 1) := by decide +kernel
theorem dX6_commitAt_104 : decode cX6_commitAt 104 = .ok (.invokevirtual 109, 3) := by decide +kernel
theorem dX6_commitAt_107 : decode cX6_commitAt 107 = .ok (.pop, 1) := by decide +kernel
theorem dX6_commitAt_108 : decode cX6_commitAt 108 = .ok (.goto 23, 3) := by decide +kernel
theorem dX6_commitAt_111 : decode cX6_commitAt 111 = .ok (.aload_n 0, 1) := by decide +kernel
theorem dX6_commitAt_112 : decode cX6_commitAt 112 = .ok (.iload_n 2, 1) := by decide +kernel
theorem dX6_commitAt_113 : decode cX6_commitAt 113 = .ok (.invokevirtual 147, 3) := by decide +kernel
theorem dX6_commitAt_116 : decode cX6_commitAt 116 = .ok (.aload_n 0, 1) := by decide +kernel
theorem dX6_commitAt_117 : decode cX6_commitAt 117 = .ok (.getfield 11, 3) := by decide +kernel
theorem dX6_commitAt_120 : decode cX6_commitAt 120 = .ok (.iconst 1, 1) := by decide +kernel
theorem dX6_commitAt_121 : decode cX6_commitAt 121 = .ok (.iaload, 1) := by decide +kernel
theorem dX6_commitAt_122 : decode cX6_commitAt 122 = .ok (.iconst 1, 1) := by decide +kernel
theorem dX6_commitAt_123 : decode cX6_commitAt 123 = .ok (.if_icmp .ne 8, 3) := by decide +kernel
theorem dX6_commitAt_126 : decode cX6_commitAt 126 = .ok (.aload_n 0, 1) := by decide +kernel
theorem dX6_commitAt_127 : decode cX6_commitAt 127 = .ok (.invokevirtual 112, 3) := by decide +kernel
theorem dX6_commitAt_130 : decode cX6_commitAt 130 = .ok (.pop, 1) := by decide +kernel
theorem dX6_commitAt_131 : decode cX6_commitAt 131 = .ok (.aload_n 0, 1) := by decide +kernel
theorem dX6_commitAt_132 : decode cX6_commitAt 132 = .ok (.invokevirtual 150, 3) := by decide +kernel
theorem dX6_commitAt_135 : decode cX6_commitAt 135 = .ok (.istore_n 2, 1) := by decide +kernel
theorem dX6_commitAt_136 : decode cX6_commitAt 136 = .ok (.iinc 3 1, 3) := by decide +kernel
theorem dX6_commitAt_139 : decode cX6_commitAt 139 = .ok (.goto (-64), 3) := by decide +kernel
theorem dX6_commitAt_142 : decode cX6_commitAt 142 = .ok (.iconst 0, 1) := by decide +kernel
theorem dX6_commitAt_143 : decode cX6_commitAt 143 = .ok (.ireturn, 1) := by decide +kernel
def fW_commitAt_75 (u : Nat) (s6 : Int32 × Int32 × (Nat → Int32)) : Option ((Int32 × Int32 × (Nat → Int32)) ⊕ ((Nat → Int32))) :=
  if (iz 8) ≤ s6.2.1 then
    some (.inr s6.2.2)
  else
    (fL_within u s6.1 (iz 8)).bind fun b7 =>
    if b7 = true then
      (nx_rd 514 s6.2.2 ((iz 72) + s6.1)).bind fun x8 =>
      (if x8 = iz 0 then
         (fW_makeSure u s6.2.2 s6.1).bind fun g9 =>
         (nx_rd 514 g9 (iz 1)).bind fun x10 =>
         if x10 = (iz 1) then
           (fW_pruneAll u g9).bind fun p11 =>
           some p11.2
         else
           some g9
       else
         (fW_fallWithAll u s6.2.2 s6.1).bind fun p12 =>
         some p12.2 : Option ((Nat → Int32))).bind fun s13 =>
      (fW_lowestReady u s13).bind fun x14 =>
      some (.inl (x14, (s6.2.1 + iz 1), s13))
    else
      some (.inr s6.2.2)
def fW_commitAt (u : Nat) (f : (Nat → Int32)) (a1 : Int32) : Option (Int32 × (Nat → Int32)) :=
  (nx_rd 514 f ((iz 72) + a1)).bind fun x1 =>
  if x1 = iz 0 then
    (nx_wr 514 f ((iz 40) + a1) (iz 2)).bind fun f2 =>
    (nx_rd 514 f2 ((iz 48) + a1)).bind fun x3 =>
    (fW_note u f2 (iz 3) a1 x3).bind fun g4 =>
    (nx_rd 514 g4 ((iz 64) + a1)).bind fun x5 =>
    if x5 = iz 0 then
      (nx_iter u (fW_commitAt_75 u) (a1, (iz 0), g4)).bind fun e15 =>
      some ((iz 0), e15)
    else
      (nx_rd 514 g4 ((iz 64) + a1)).bind fun x16 =>
      (fJ_bitCount_0f7a4 u x16).bind fun x17 =>
      some (x17, g4)
  else
    (fW_fallWithAll u f a1).bind fun p18 =>
    some ((iz (-2)), p18.2)
set_option maxRecDepth 4000 in
theorem jW_commitAt_75 {Γ : nx_G} {M0 : nx_M} {w c : Nat} (hw : M0.1 w = some (.inr (6, [.ref c]))) (hc : w ≠ c) (u : Nat) (a1 : Int32)   (X : nx_X) (Z : nx_Z) (s6 : Int32 × Int32 × (Nat → Int32)) : nx_J Γ X (RX6, cX6_commitAt, 4, (some .int), "commitAt", 4) Z (Sum.elim (fun s6 : Int32 × Int32 × (Nat → Int32) => .inl (75, [some (.ref w), some (.int a1), some (.int s6.1), some (.int s6.2.1)], [], (wW Γ M0 c s6.2.2))) (fun e15 : (Nat → Int32) => .inl (142, [some (.ref w), some (.int a1), none, none], [], (wW Γ M0 c e15)))) (.inl (75, [some (.ref w), some (.int a1), some (.int s6.1), some (.int s6.2.1)], [], (wW Γ M0 c s6.2.2))) (fW_commitAt_75 u s6) := by
  unfold fW_commitAt_75
  refine nx_iload_n rfl dX6_commitAt_75 rfl ?_
  refine nx_bipush (by decide +kernel) dX6_commitAt_76 rfl ?_
  refine nx_icmp_ge (t := 142) dX6_commitAt_78 (by decide) rfl ?_ ?_
  · refine nx_weak (ls' := [some (.ref w), some (.int a1), none, none]) (nx_wk_s (nx_wk_s (nx_wk_n (nx_wk_n nx_wk_e)))) ?_
    obtain ⟨_, _, _⟩ := s6
    exact nx_leaf rfl
  · refine nx_iload_n rfl dX6_commitAt_81 rfl ?_
    refine nx_bipush (by decide +kernel) dX6_commitAt_82 rfl ?_
    refine nx_callSr [.int s6.1, .int (iz 8)] (fun r => .int (bz r)) (fun _ => (wW Γ M0 c s6.2.2)) cw_6_33 wd_442 (fun r e => cL_within X.2.1  e) rfl rfl (Nat.le_of_ble_eq_true rfl) (Nat.le_of_ble_eq_true rfl) dX6_commitAt_84 rfl (fun b7 => ?_)
    refine nx_ifz_eq (t := 142) dX6_commitAt_87 (by decide) rfl ?_ ?_
    · refine nx_weak (ls' := [some (.ref w), some (.int a1), none, none]) (nx_wk_s (nx_wk_s (nx_wk_n (nx_wk_n nx_wk_e)))) ?_
      obtain ⟨_, _, _⟩ := s6
      exact nx_leaf rfl
    · refine nx_aload_n rfl dX6_commitAt_90 rfl ?_
      refine nx_getf fl_6_11 ((nx_put_ne hc).trans hw) rfl dX6_commitAt_91 rfl ?_
      refine nx_bipush (by decide +kernel) dX6_commitAt_94 rfl ?_
      refine nx_iload_n rfl dX6_commitAt_96 rfl ?_
      refine nx_iadd dX6_commitAt_97 rfl ?_
      refine nx_iald nx_put_self dX6_commitAt_98 rfl (fun x8 => ?_)
      refine nx_seq (C1 := fun s13 : (Nat → Int32) => .inl (131, [some (.ref w), some (.int a1), some (.int s6.1), some (.int s6.2.1)], [], (wW Γ M0 c s13))) ?_ (fun s13 => ?_)
      · refine nx_if_eq (t := 111) dX6_commitAt_99 (by decide) rfl ?_ ?_
        · refine nx_aload_n rfl dX6_commitAt_111 rfl ?_
          refine nx_iload_n rfl dX6_commitAt_112 rfl ?_
          refine nx_callVv [.int s6.1] (fun r => (wW Γ M0 c r)) cw_6_147 cv_X6_makeSure (fun r e => cW_makeSure X.2.1 hw hc e) ((nx_put_ne hc).trans hw) rfl rfl (Nat.le_of_ble_eq_true rfl) (Nat.le_of_ble_eq_true rfl) dX6_commitAt_113 rfl (fun g9 => ?_)
          refine nx_aload_n rfl dX6_commitAt_116 rfl ?_
          refine nx_getf fl_6_11 ((nx_put_ne hc).trans hw) rfl dX6_commitAt_117 rfl ?_
          refine nx_iconst dX6_commitAt_120 rfl ?_
          refine nx_iald nx_put_self dX6_commitAt_121 rfl (fun x10 => ?_)
          refine nx_iconst dX6_commitAt_122 rfl ?_
          refine nx_icmp_ne (t := 131) dX6_commitAt_123 (by decide) rfl ?_ ?_
          · obtain ⟨_, _, _⟩ := s6
            exact nx_leaf rfl
          · refine nx_aload_n rfl dX6_commitAt_126 rfl ?_
            refine nx_callVr [] (fun r => .int r.1) (fun r => (wW Γ M0 c r.2)) cw_6_112 cv_X6_pruneAll (fun r e => cW_pruneAll X.2.1 hw hc e) ((nx_put_ne hc).trans hw) rfl rfl (Nat.le_of_ble_eq_true rfl) (Nat.le_of_ble_eq_true rfl) dX6_commitAt_127 rfl (fun p11 => ?_)
            refine nx_pop rfl dX6_commitAt_130 rfl ?_
            obtain ⟨_, _, _⟩ := s6
            obtain ⟨_, _⟩ := p11
            exact nx_leaf rfl
        · refine nx_aload_n rfl dX6_commitAt_102 rfl ?_
          refine nx_iload_n rfl dX6_commitAt_103 rfl ?_
          refine nx_callVr [.int s6.1] (fun r => .int r.1) (fun r => (wW Γ M0 c r.2)) cw_6_109 cv_X6_fallWithAll (fun r e => cW_fallWithAll X.2.1 hw hc e) ((nx_put_ne hc).trans hw) rfl rfl (Nat.le_of_ble_eq_true rfl) (Nat.le_of_ble_eq_true rfl) dX6_commitAt_104 rfl (fun p12 => ?_)
          refine nx_pop rfl dX6_commitAt_107 rfl ?_
          refine nx_goto (q := 131) dX6_commitAt_108 (by decide) ?_
          obtain ⟨_, _, _⟩ := s6
          obtain ⟨_, _⟩ := p12
          exact nx_leaf rfl
      refine nx_aload_n rfl dX6_commitAt_131 rfl ?_
      refine nx_callVr [] (fun r => .int r) (fun _ => (wW Γ M0 c s13)) cw_6_150 cv_X6_lowestReady (fun r e => cW_lowestReady X.2.1 hw hc e) ((nx_put_ne hc).trans hw) rfl rfl (Nat.le_of_ble_eq_true rfl) (Nat.le_of_ble_eq_true rfl) dX6_commitAt_132 rfl (fun x14 => ?_)
      refine nx_istore_n [some (.ref w), some (.int a1), some (.int x14), some (.int s6.2.1)] dX6_commitAt_135 rfl (Nat.le_of_ble_eq_true rfl) rfl rfl ?_
      refine nx_iinc [some (.ref w), some (.int a1), some (.int x14), some (.int (s6.2.1 + iz 1))] dX6_commitAt_136 rfl rfl (Nat.le_of_ble_eq_true rfl) rfl rfl ?_
      refine nx_goto (q := 75) dX6_commitAt_139 (by decide) ?_
      obtain ⟨_, _, _⟩ := s6
      exact nx_leaf rfl
set_option maxRecDepth 4000 in
theorem jW_commitAt {Γ : nx_G} {M0 : nx_M} {w c : Nat} (hw : M0.1 w = some (.inr (6, [.ref c]))) (hc : w ≠ c) (u : Nat) (f : (Nat → Int32)) (a1 : Int32)   (X : nx_X) (Z : nx_Z) : nx_J Γ X (RX6, cX6_commitAt, 4, (some .int), "commitAt", 4) Z (fun r0 : Int32 × (Nat → Int32) => .inr (some (.int r0.1), (wW Γ M0 c r0.2))) (.inl (0, [some (.ref w), some (.int a1), none, none], [], (wW Γ M0 c f))) (fW_commitAt u f a1) := by
  unfold fW_commitAt
  refine nx_aload_n rfl dX6_commitAt_0 rfl ?_
  refine nx_getf fl_6_11 ((nx_put_ne hc).trans hw) rfl dX6_commitAt_1 rfl ?_
  refine nx_bipush (by decide +kernel) dX6_commitAt_4 rfl ?_
  refine nx_iload_n rfl dX6_commitAt_6 rfl ?_
  refine nx_iadd dX6_commitAt_7 rfl ?_
  refine nx_iald nx_put_self dX6_commitAt_8 rfl (fun x1 => ?_)
  refine nx_if_eq (t := 21) dX6_commitAt_9 (by decide) rfl ?_ ?_
  · refine nx_aload_n rfl dX6_commitAt_21 rfl ?_
    refine nx_getf fl_6_11 ((nx_put_ne hc).trans hw) rfl dX6_commitAt_22 rfl ?_
    refine nx_bipush (by decide +kernel) dX6_commitAt_25 rfl ?_
    refine nx_iload_n rfl dX6_commitAt_27 rfl ?_
    refine nx_iadd dX6_commitAt_28 rfl ?_
    refine nx_iconst dX6_commitAt_29 rfl ?_
    refine w_iast dX6_commitAt_30 rfl (fun f2 => ?_)
    refine nx_aload_n rfl dX6_commitAt_31 rfl ?_
    refine nx_iconst dX6_commitAt_32 rfl ?_
    refine nx_iload_n rfl dX6_commitAt_33 rfl ?_
    refine nx_aload_n rfl dX6_commitAt_34 rfl ?_
    refine nx_getf fl_6_11 ((nx_put_ne hc).trans hw) rfl dX6_commitAt_35 rfl ?_
    refine nx_bipush (by decide +kernel) dX6_commitAt_38 rfl ?_
    refine nx_iload_n rfl dX6_commitAt_40 rfl ?_
    refine nx_iadd dX6_commitAt_41 rfl ?_
    refine nx_iald nx_put_self dX6_commitAt_42 rfl (fun x3 => ?_)
    refine nx_callVv [.int (iz 3), .int a1, .int x3] (fun r => (wW Γ M0 c r)) cw_6_115 cv_X6_note (fun r e => cW_note X.2.1 hw hc e) ((nx_put_ne hc).trans hw) rfl rfl (Nat.le_of_ble_eq_true rfl) (Nat.le_of_ble_eq_true rfl) dX6_commitAt_43 rfl (fun g4 => ?_)
    refine nx_aload_n rfl dX6_commitAt_46 rfl ?_
    refine nx_getf fl_6_11 ((nx_put_ne hc).trans hw) rfl dX6_commitAt_47 rfl ?_
    refine nx_bipush (by decide +kernel) dX6_commitAt_50 rfl ?_
    refine nx_iload_n rfl dX6_commitAt_52 rfl ?_
    refine nx_iadd dX6_commitAt_53 rfl ?_
    refine nx_iald nx_put_self dX6_commitAt_54 rfl (fun x5 => ?_)
    refine nx_if_eq (t := 71) dX6_commitAt_55 (by decide) rfl ?_ ?_
    · refine nx_iload_n rfl dX6_commitAt_71 rfl ?_
      refine nx_istore_n [some (.ref w), some (.int a1), some (.int a1), none] dX6_commitAt_72 rfl (Nat.le_of_ble_eq_true rfl) rfl rfl ?_
      refine nx_iconst dX6_commitAt_73 rfl ?_
      refine nx_istore_n [some (.ref w), some (.int a1), some (.int a1), some (.int (iz 0))] dX6_commitAt_74 rfl (Nat.le_of_ble_eq_true rfl) rfl rfl ?_
      refine nx_seq (C1 := fun e15 : (Nat → Int32) => .inl (142, [some (.ref w), some (.int a1), none, none], [], (wW Γ M0 c e15))) (nx_loop (C1 := fun s6 : Int32 × Int32 × (Nat → Int32) => .inl (75, [some (.ref w), some (.int a1), some (.int s6.1), some (.int s6.2.1)], [], (wW Γ M0 c s6.2.2))) (fun s6 => jW_commitAt_75 hw hc u a1 X Z s6) (a1, (iz 0), g4)) (fun e15 => ?_)
      refine nx_iconst dX6_commitAt_142 rfl ?_
      exact nx_iret dX6_commitAt_143 rfl rfl
    · refine nx_aload_n rfl dX6_commitAt_58 rfl ?_
      refine nx_getf fl_6_11 ((nx_put_ne hc).trans hw) rfl dX6_commitAt_59 rfl ?_
      refine nx_bipush (by decide +kernel) dX6_commitAt_62 rfl ?_
      refine nx_iload_n rfl dX6_commitAt_64 rfl ?_
      refine nx_iadd dX6_commitAt_65 rfl ?_
      refine nx_iald nx_put_self dX6_commitAt_66 rfl (fun x16 => ?_)
      refine nx_callSr [.int x16] (fun r => .int r) (fun _ => (wW Γ M0 c g4)) cw_6_142 wd_724 (fun r e => cJ_bitCount_0f7a4 X.2.1  e) rfl rfl (Nat.le_of_ble_eq_true rfl) (Nat.le_of_ble_eq_true rfl) dX6_commitAt_67 rfl (fun x17 => ?_)
      exact nx_iret dX6_commitAt_70 rfl rfl
  · refine nx_aload_n rfl dX6_commitAt_12 rfl ?_
    refine nx_iload_n rfl dX6_commitAt_13 rfl ?_
    refine nx_callVr [.int a1] (fun r => .int r.1) (fun r => (wW Γ M0 c r.2)) cw_6_109 cv_X6_fallWithAll (fun r e => cW_fallWithAll X.2.1 hw hc e) ((nx_put_ne hc).trans hw) rfl rfl (Nat.le_of_ble_eq_true rfl) (Nat.le_of_ble_eq_true rfl) dX6_commitAt_14 rfl (fun p18 => ?_)
    refine nx_pop rfl dX6_commitAt_17 rfl ?_
    refine nx_bipush (by decide +kernel) dX6_commitAt_18 rfl ?_
    exact nx_iret dX6_commitAt_20 rfl rfl
theorem cW_commitAt (l : Launch) {Γ : nx_G} {M0 : nx_M} {w c : Nat} (hw : M0.1 w = some (.inr (6, [.ref c]))) (hc : w ≠ c) {u : Nat} {f : (Nat → Int32)} {a1 : Int32} {r : Int32 × (Nat → Int32)}  (h : fW_commitAt u f a1 = some r) : nx_Ct l Γ 4 yX6_commitAt cX6_commitAt 4 (some .int) [.ref w, .int a1] (wW Γ M0 c f) (some (.int r.1), (wW Γ M0 c r.2)) :=
  nx_ct (out := fun r0 : Int32 × (Nat → Int32) => (some (.int r0.1), (wW Γ M0 c r0.2))) [some (.ref w), some (.int a1), none, none] pn_RX6 h (Nat.le_of_ble_eq_true rfl) rfl (fun X Z _ => jW_commitAt hw hc u f a1 X Z)
theorem dX6_act_0 : decode cX6_act 0 = .ok (.iload_n 1, 1) := by decide +kernel
theorem dX6_act_1 : decode cX6_act 1 = .ok (.tableswitch 130 0 6 #[43, 80, 95, 113, 119, 125, 63], 43) := by decide +kernel
theorem dX6_act_44 : decode cX6_act 44 = .ok (.aload_n 0, 1) := by decide +kernel
theorem dX6_act_45 : decode cX6_act 45 = .ok (.iload_n 2, 1) := by decide +kernel
theorem dX6_act_46 : decode cX6_act 46 = .ok (.iload_n 3, 1) := by decide +kernel
theorem dX6_act_47 : decode cX6_act 47 = .ok (.aload_n 0, 1) := by decide +kernel
theorem dX6_act_48 : decode cX6_act 48 = .ok (.invokevirtual 84, 3) := by decide +kernel
theorem dX6_act_51 : decode cX6_act 51 = .ok (.invokevirtual 88, 3) := by decide +kernel
theorem dX6_act_54 : decode cX6_act 54 = .ok (.aload_n 0, 1) := by decide +kernel
theorem dX6_act_55 : decode cX6_act 55 = .ok (.getfield 11, 3) := by decide +kernel
theorem dX6_act_58 : decode cX6_act 58 = .ok (.bipush 48, 2) := by decide +kernel
theorem dX6_act_60 : decode cX6_act 60 = .ok (.iload_n 2, 1) := by decide +kernel
theorem dX6_act_61 : decode cX6_act 61 = .ok (.iadd, 1) := by decide +kernel
theorem dX6_act_62 : decode cX6_act 62 = .ok (.iaload, 1) := by decide +kernel
theorem dX6_act_63 : decode cX6_act 63 = .ok (.ireturn, 1) := by decide +kernel
theorem dX6_act_64 : decode cX6_act 64 = .ok (.aload_n 0, 1) := by decide +kernel
theorem dX6_act_65 : decode cX6_act 65 = .ok (.iload 4, 2) := by decide +kernel
theorem dX6_act_67 : decode cX6_act 67 = .ok (.invokevirtual 92, 3) := by decide +kernel
theorem dX6_act_70 : decode cX6_act 70 = .ok (.aload_n 0, 1) := by decide +kernel
theorem dX6_act_71 : decode cX6_act 71 = .ok (.iload_n 2, 1) := by decide +kernel
theorem dX6_act_72 : decode cX6_act 72 = .ok (.iload_n 3, 1) := by decide +kernel
theorem dX6_act_73 : decode cX6_act 73 = .ok (.iload 4, 2) := by decide +kernel
theorem dX6_act_75 : decode cX6_act 75 = .ok (.invokevirtual 88, 3) := by decide +kernel
theorem dX6_act_78 : decode cX6_act 78 = .ok (.iload 4, 2) := by decide +kernel
theorem dX6_act_80 : decode cX6_act 80 = .ok (.ireturn, 1) := by decide +kernel
theorem dX6_act_81 : decode cX6_act 81 = .ok (.aload_n 0, 1) := by decide +kernel
theorem dX6_act_82 : decode cX6_act 82 = .ok (.iload_n 2, 1) := by decide +kernel
theorem dX6_act_83 : decode cX6_act 83 = .ok (.iconst 1, 1) := by decide +kernel
theorem dX6_act_84 : decode cX6_act 84 = .ok (.iload_n 3, 1) := by decide +kernel
theorem dX6_act_85 : decode cX6_act 85 = .ok (.iconst (-1), 1) := by decide +kernel
theorem dX6_act_86 : decode cX6_act 86 = .ok (.invokevirtual 96, 3) := by decide +kernel
theorem dX6_act_89 : decode cX6_act 89 = .ok (.aload_n 0, 1) := by decide +kernel
theorem dX6_act_90 : decode cX6_act 90 = .ok (.iload_n 2, 1) := by decide +kernel
theorem dX6_act_91 : decode cX6_act 91 = .ok (.iload_n 3, 1) := by decide +kernel
theorem dX6_act_92 : decode cX6_act 92 = .ok (.invokevirtual 100, 3) := by decide +kernel
theorem dX6_act_95 : decode cX6_act 95 = .ok (.ireturn, 1) := by decide +kernel
theorem dX6_act_96 : decode cX6_act 96 = .ok (.aload_n 0, 1) := by decide +kernel
theorem dX6_act_97 : decode cX6_act 97 = .ok (.iload_n 2, 1) := by decide +kernel
theorem dX6_act_98 : decode cX6_act 98 = .ok (.iconst 2, 1) := by decide +kernel
theorem dX6_act_99 : decode cX6_act 99 = .ok (.iload_n 3, 1) := by decide +kernel
theorem dX6_act_100 : decode cX6_act 100 = .ok (.iload 4, 2) := by decide +kernel
theorem dX6_act_102 : decode cX6_act 102 = .ok (.invokevirtual 96, 3) := by decide +kernel
theorem dX6_act_105 : decode cX6_act 105 = .ok (.aload_n 0, 1) := by decide +kernel
theorem dX6_act_106 : decode cX6_act 106 = .ok (.iload_n 2, 1) := by decide +kernel
theorem dX6_act_107 : decode cX6_act 107 = .ok (.iload_n 3, 1) := by decide +kernel
theorem dX6_act_108 : decode cX6_act 108 = .ok (.iload 4, 2) := by decide +kernel
theorem dX6_act_110 : decode cX6_act 110 = .ok (.invokevirtual 103, 3) := by decide +kernel
theorem dX6_act_113 : decode cX6_act 113 = .ok (.ireturn, 1) := by decide +kernel
theorem dX6_act_114 : decode cX6_act 114 = .ok (.aload_n 0, 1) := by decide +kernel
theorem dX6_act_115 : decode cX6_act 115 = .ok (.iload_n 2, 1) := by decide +kernel
theorem dX6_act_116 : decode cX6_act 116 = .ok (.invokevirtual 106, 3) := by decide +kernel
theorem dX6_act_119 : decode cX6_act 119 = .ok (.ireturn, 1) := by decide +kernel
theorem dX6_act_120 : decode cX6_act 120 = .ok (.aload_n 0, 1) := by decide +kernel
theorem dX6_act_121 : decode cX6_act 121 = .ok (.iload_n 2, 1) := by decide +kernel
theorem dX6_act_122 : decode cX6_act 122 = .ok (.invokevirtual 109, 3) := by decide +kernel
theorem dX6_act_125 : decode cX6_act 125 = .ok (.ireturn, 1) := by decide +kernel
theorem dX6_act_126 : decode cX6_act 126 = .ok (.aload_n 0, 1) := by decide +kernel
theorem dX6_act_127 : decode cX6_act 127 = .ok (.invokevirtual 112, 3) := by decide +kernel
theorem dX6_act_130 : decode cX6_act 130 = .ok (.ireturn, 1) := by decide +kernel
theorem dX6_act_131 : decode cX6_act 131 = .ok (.iconst (-1), 1) := by decide +kernel
theorem dX6_act_132 : decode cX6_act 132 = .ok (.ireturn, 1) := by decide +kernel
def fW_act (u : Nat) (f : (Nat → Int32)) (a1 : Int32) (a2 : Int32) (a3 : Int32) (a4 : Int32) : Option (Int32 × (Nat → Int32)) :=
  nx_sw a1 0 [
    ((fW_ticked u f).bind fun p1 =>
    (fW_enter u p1.2 a2 a3 p1.1).bind fun g2 =>
    (nx_rd 514 g2 ((iz 48) + a2)).bind fun x3 =>
    some (x3, g2)),
    ((fW_keepDeed u f a2 (iz 1) a3 (iz (-1))).bind fun g4 =>
    (fW_readKey u g4 a2 a3).bind fun p5 =>
    some (p5.1, p5.2)),
    ((fW_keepDeed u f a2 (iz 2) a3 a4).bind fun g6 =>
    (fW_writeKey u g6 a2 a3 a4).bind fun p7 =>
    some (p7.1, p7.2)),
    ((fW_commitAt u f a2).bind fun p8 =>
    some (p8.1, p8.2)),
    ((fW_fallWithAll u f a2).bind fun p9 =>
    some (p9.1, p9.2)),
    ((fW_pruneAll u f).bind fun p10 =>
    some (p10.1, p10.2)),
    ((fW_keepHand u f a4).bind fun g11 =>
    (fW_enter u g11 a2 a3 a4).bind fun g12 =>
    some (a4, g12)) ]
    (some ((iz (-1)), f))
set_option maxRecDepth 4000 in
theorem jW_act {Γ : nx_G} {M0 : nx_M} {w c : Nat} (hw : M0.1 w = some (.inr (6, [.ref c]))) (hc : w ≠ c) (u : Nat) (f : (Nat → Int32)) (a1 : Int32) (a2 : Int32) (a3 : Int32) (a4 : Int32)   (X : nx_X) (Z : nx_Z) : nx_J Γ X (RX6, cX6_act, 5, (some .int), "act", 5) Z (fun r0 : Int32 × (Nat → Int32) => .inr (some (.int r0.1), (wW Γ M0 c r0.2))) (.inl (0, [some (.ref w), some (.int a1), some (.int a2), some (.int a3), some (.int a4)], [], (wW Γ M0 c f))) (fW_act u f a1 a2 a3 a4) := by
  unfold fW_act
  refine nx_iload_n rfl dX6_act_0 rfl ?_
  refine nx_tsw (td := 131) dX6_act_1 rfl (by decide) ?_ ?_
  · refine nx_iconst dX6_act_131 rfl ?_
    exact nx_iret dX6_act_132 rfl rfl
  refine nx_swl_c 44 (by decide) ?_ ?_
  · refine nx_aload_n rfl dX6_act_44 rfl ?_
    refine nx_iload_n rfl dX6_act_45 rfl ?_
    refine nx_iload_n rfl dX6_act_46 rfl ?_
    refine nx_aload_n rfl dX6_act_47 rfl ?_
    refine nx_callVr [] (fun r => .int r.1) (fun r => (wW Γ M0 c r.2)) cw_6_84 cv_X6_ticked (fun r e => cW_ticked X.2.1 hw hc e) ((nx_put_ne hc).trans hw) rfl rfl (Nat.le_of_ble_eq_true rfl) (Nat.le_of_ble_eq_true rfl) dX6_act_48 rfl (fun p1 => ?_)
    refine nx_callVv [.int a2, .int a3, .int p1.1] (fun r => (wW Γ M0 c r)) cw_6_88 cv_X6_enter (fun r e => cW_enter X.2.1 hw hc e) ((nx_put_ne hc).trans hw) rfl rfl (Nat.le_of_ble_eq_true rfl) (Nat.le_of_ble_eq_true rfl) dX6_act_51 rfl (fun g2 => ?_)
    refine nx_aload_n rfl dX6_act_54 rfl ?_
    refine nx_getf fl_6_11 ((nx_put_ne hc).trans hw) rfl dX6_act_55 rfl ?_
    refine nx_bipush (by decide +kernel) dX6_act_58 rfl ?_
    refine nx_iload_n rfl dX6_act_60 rfl ?_
    refine nx_iadd dX6_act_61 rfl ?_
    refine nx_iald nx_put_self dX6_act_62 rfl (fun x3 => ?_)
    exact nx_iret dX6_act_63 rfl rfl
  refine nx_swl_c 81 (by decide) ?_ ?_
  · refine nx_aload_n rfl dX6_act_81 rfl ?_
    refine nx_iload_n rfl dX6_act_82 rfl ?_
    refine nx_iconst dX6_act_83 rfl ?_
    refine nx_iload_n rfl dX6_act_84 rfl ?_
    refine nx_iconst dX6_act_85 rfl ?_
    refine nx_callVv [.int a2, .int (iz 1), .int a3, .int (iz (-1))] (fun r => (wW Γ M0 c r)) cw_6_96 cv_X6_keepDeed (fun r e => cW_keepDeed X.2.1 hw hc e) ((nx_put_ne hc).trans hw) rfl rfl (Nat.le_of_ble_eq_true rfl) (Nat.le_of_ble_eq_true rfl) dX6_act_86 rfl (fun g4 => ?_)
    refine nx_aload_n rfl dX6_act_89 rfl ?_
    refine nx_iload_n rfl dX6_act_90 rfl ?_
    refine nx_iload_n rfl dX6_act_91 rfl ?_
    refine nx_callVr [.int a2, .int a3] (fun r => .int r.1) (fun r => (wW Γ M0 c r.2)) cw_6_100 cv_X6_readKey (fun r e => cW_readKey X.2.1 hw hc e) ((nx_put_ne hc).trans hw) rfl rfl (Nat.le_of_ble_eq_true rfl) (Nat.le_of_ble_eq_true rfl) dX6_act_92 rfl (fun p5 => ?_)
    exact nx_iret dX6_act_95 rfl rfl
  refine nx_swl_c 96 (by decide) ?_ ?_
  · refine nx_aload_n rfl dX6_act_96 rfl ?_
    refine nx_iload_n rfl dX6_act_97 rfl ?_
    refine nx_iconst dX6_act_98 rfl ?_
    refine nx_iload_n rfl dX6_act_99 rfl ?_
    refine nx_iload rfl dX6_act_100 rfl ?_
    refine nx_callVv [.int a2, .int (iz 2), .int a3, .int a4] (fun r => (wW Γ M0 c r)) cw_6_96 cv_X6_keepDeed (fun r e => cW_keepDeed X.2.1 hw hc e) ((nx_put_ne hc).trans hw) rfl rfl (Nat.le_of_ble_eq_true rfl) (Nat.le_of_ble_eq_true rfl) dX6_act_102 rfl (fun g6 => ?_)
    refine nx_aload_n rfl dX6_act_105 rfl ?_
    refine nx_iload_n rfl dX6_act_106 rfl ?_
    refine nx_iload_n rfl dX6_act_107 rfl ?_
    refine nx_iload rfl dX6_act_108 rfl ?_
    refine nx_callVr [.int a2, .int a3, .int a4] (fun r => .int r.1) (fun r => (wW Γ M0 c r.2)) cw_6_103 cv_X6_writeKey (fun r e => cW_writeKey X.2.1 hw hc e) ((nx_put_ne hc).trans hw) rfl rfl (Nat.le_of_ble_eq_true rfl) (Nat.le_of_ble_eq_true rfl) dX6_act_110 rfl (fun p7 => ?_)
    exact nx_iret dX6_act_113 rfl rfl
  refine nx_swl_c 114 (by decide) ?_ ?_
  · refine nx_aload_n rfl dX6_act_114 rfl ?_
    refine nx_iload_n rfl dX6_act_115 rfl ?_
    refine nx_callVr [.int a2] (fun r => .int r.1) (fun r => (wW Γ M0 c r.2)) cw_6_106 cv_X6_commitAt (fun r e => cW_commitAt X.2.1 hw hc e) ((nx_put_ne hc).trans hw) rfl rfl (Nat.le_of_ble_eq_true rfl) (Nat.le_of_ble_eq_true rfl) dX6_act_116 rfl (fun p8 => ?_)
    exact nx_iret dX6_act_119 rfl rfl
  refine nx_swl_c 120 (by decide) ?_ ?_
  · refine nx_aload_n rfl dX6_act_120 rfl ?_
    refine nx_iload_n rfl dX6_act_121 rfl ?_
    refine nx_callVr [.int a2] (fun r => .int r.1) (fun r => (wW Γ M0 c r.2)) cw_6_109 cv_X6_fallWithAll (fun r e => cW_fallWithAll X.2.1 hw hc e) ((nx_put_ne hc).trans hw) rfl rfl (Nat.le_of_ble_eq_true rfl) (Nat.le_of_ble_eq_true rfl) dX6_act_122 rfl (fun p9 => ?_)
    exact nx_iret dX6_act_125 rfl rfl
  refine nx_swl_c 126 (by decide) ?_ ?_
  · refine nx_aload_n rfl dX6_act_126 rfl ?_
    refine nx_callVr [] (fun r => .int r.1) (fun r => (wW Γ M0 c r.2)) cw_6_112 cv_X6_pruneAll (fun r e => cW_pruneAll X.2.1 hw hc e) ((nx_put_ne hc).trans hw) rfl rfl (Nat.le_of_ble_eq_true rfl) (Nat.le_of_ble_eq_true rfl) dX6_act_127 rfl (fun p10 => ?_)
    exact nx_iret dX6_act_130 rfl rfl
  refine nx_swl_c 64 (by decide) ?_ ?_
  · refine nx_aload_n rfl dX6_act_64 rfl ?_
    refine nx_iload rfl dX6_act_65 rfl ?_
    refine nx_callVv [.int a4] (fun r => (wW Γ M0 c r)) cw_6_92 cv_X6_keepHand (fun r e => cW_keepHand X.2.1 hw hc e) ((nx_put_ne hc).trans hw) rfl rfl (Nat.le_of_ble_eq_true rfl) (Nat.le_of_ble_eq_true rfl) dX6_act_67 rfl (fun g11 => ?_)
    refine nx_aload_n rfl dX6_act_70 rfl ?_
    refine nx_iload_n rfl dX6_act_71 rfl ?_
    refine nx_iload_n rfl dX6_act_72 rfl ?_
    refine nx_iload rfl dX6_act_73 rfl ?_
    refine nx_callVv [.int a2, .int a3, .int a4] (fun r => (wW Γ M0 c r)) cw_6_88 cv_X6_enter (fun r e => cW_enter X.2.1 hw hc e) ((nx_put_ne hc).trans hw) rfl rfl (Nat.le_of_ble_eq_true rfl) (Nat.le_of_ble_eq_true rfl) dX6_act_75 rfl (fun g12 => ?_)
    refine nx_iload rfl dX6_act_78 rfl ?_
    exact nx_iret dX6_act_80 rfl rfl
  exact nx_swl_e
theorem cW_act (l : Launch) {Γ : nx_G} {M0 : nx_M} {w c : Nat} (hw : M0.1 w = some (.inr (6, [.ref c]))) (hc : w ≠ c) {u : Nat} {f : (Nat → Int32)} {a1 : Int32} {a2 : Int32} {a3 : Int32} {a4 : Int32} {r : Int32 × (Nat → Int32)}  (h : fW_act u f a1 a2 a3 a4 = some r) : nx_Ct l Γ 5 yX6_act cX6_act 5 (some .int) [.ref w, .int a1, .int a2, .int a3, .int a4] (wW Γ M0 c f) (some (.int r.1), (wW Γ M0 c r.2)) :=
  nx_ct (out := fun r0 : Int32 × (Nat → Int32) => (some (.int r0.1), (wW Γ M0 c r0.2))) [some (.ref w), some (.int a1), some (.int a2), some (.int a3), some (.int a4)] pn_RX6 h (Nat.le_of_ble_eq_true rfl) rfl (fun X Z _ => jW_act hw hc u f a1 a2 a3 a4 X Z)
theorem dX6_markToRead_0 : decode cX6_markToRead 0 = .ok (.aload_n 0, 1) := by decide +kernel
theorem dX6_markToRead_1 : decode cX6_markToRead 1 = .ok (.iload_n 1, 1) := by decide +kernel
theorem dX6_markToRead_2 : decode cX6_markToRead 2 = .ok (.iload_n 2, 1) := by decide +kernel
theorem dX6_markToRead_3 : decode cX6_markToRead 3 = .ok (.invokevirtual 118, 3) := by decide +kernel
theorem dX6_markToRead_6 : decode cX6_markToRead 6 = .ok (.istore_n 3, 1) := by decide +kernel
theorem dX6_markToRead_7 : decode cX6_markToRead 7 = .ok (.iload_n 3, 1) := by decide +kernel
theorem dX6_markToRead_8 : decode cX6_markToRead 8 = .ok (.bipush 54, 2) := by decide +kernel
theorem dX6_markToRead_10 : decode cX6_markToRead 10 = .ok (.invokestatic 33, 3) := by decide +kernel
theorem dX6_markToRead_13 : decode cX6_markToRead 13 = .ok (.ifCond .eq 16, 3) := by decide +kernel
theorem dX6_markToRead_16 : decode cX6_markToRead 16 = .ok (.aload_n 0, 1) := by decide +kernel
theorem dX6_markToRead_17 : decode cX6_markToRead 17 = .ok (.getfield 11, 3) := by decide +kernel
theorem dX6_markToRead_20 : decode cX6_markToRead 20 = .ok (.sipush 238, 3) := by decide +kernel
theorem dX6_markToRead_23 : decode cX6_markToRead 23 = .ok (.iload_n 3, 1) := by decide +kernel
theorem dX6_markToRead_24 : decode cX6_markToRead 24 = .ok (.iadd, 1) := by decide +kernel
theorem dX6_markToRead_25 : decode cX6_markToRead 25 = .ok (.iaload, 1) := by decide +kernel
theorem dX6_markToRead_26 : decode cX6_markToRead 26 = .ok (.goto 4, 3) := by decide +kernel
theorem dX6_markToRead_29 : decode cX6_markToRead 29 = .ok (.iconst (-1), 1) := by decide +kernel
theorem dX6_markToRead_30 : decode cX6_markToRead 30 = .ok (.ireturn, 1) := by decide +kernel
def fW_markToRead (u : Nat) (f : (Nat → Int32)) (a1 : Int32) (a2 : Int32) : Option (Int32) :=
  (fW_slotToRead u f a1 a2).bind fun x1 =>
  (fL_within u x1 (iz 54)).bind fun b2 =>
  if b2 = true then
    (nx_rd 514 f ((iz 238) + x1)).bind fun x3 =>
    some x3
  else
    some (iz (-1))
set_option maxRecDepth 4000 in
theorem jW_markToRead {Γ : nx_G} {M0 : nx_M} {w c : Nat} (hw : M0.1 w = some (.inr (6, [.ref c]))) (hc : w ≠ c) (u : Nat) (f : (Nat → Int32)) (a1 : Int32) (a2 : Int32)   (X : nx_X) (Z : nx_Z) : nx_J Γ X (RX6, cX6_markToRead, 4, (some .int), "markToRead", 2) Z (fun r0 : Int32 => .inr (some (.int r0), (wW Γ M0 c f))) (.inl (0, [some (.ref w), some (.int a1), some (.int a2), none], [], (wW Γ M0 c f))) (fW_markToRead u f a1 a2) := by
  unfold fW_markToRead
  refine nx_aload_n rfl dX6_markToRead_0 rfl ?_
  refine nx_iload_n rfl dX6_markToRead_1 rfl ?_
  refine nx_iload_n rfl dX6_markToRead_2 rfl ?_
  refine nx_callVr [.int a1, .int a2] (fun r => .int r) (fun _ => (wW Γ M0 c f)) cw_6_118 cv_X6_slotToRead (fun r e => cW_slotToRead X.2.1 hw hc e) ((nx_put_ne hc).trans hw) rfl rfl (Nat.le_of_ble_eq_true rfl) (Nat.le_of_ble_eq_true rfl) dX6_markToRead_3 rfl (fun x1 => ?_)
  refine nx_istore_n [some (.ref w), some (.int a1), some (.int a2), some (.int x1)] dX6_markToRead_6 rfl (Nat.le_of_ble_eq_true rfl) rfl rfl ?_
  refine nx_iload_n rfl dX6_markToRead_7 rfl ?_
  refine nx_bipush (by decide +kernel) dX6_markToRead_8 rfl ?_
  refine nx_callSr [.int x1, .int (iz 54)] (fun r => .int (bz r)) (fun _ => (wW Γ M0 c f)) cw_6_33 wd_442 (fun r e => cL_within X.2.1  e) rfl rfl (Nat.le_of_ble_eq_true rfl) (Nat.le_of_ble_eq_true rfl) dX6_markToRead_10 rfl (fun b2 => ?_)
  refine nx_ifz_eq (t := 29) dX6_markToRead_13 (by decide) rfl ?_ ?_
  · refine nx_iconst dX6_markToRead_29 rfl ?_
    exact nx_iret dX6_markToRead_30 rfl rfl
  · refine nx_aload_n rfl dX6_markToRead_16 rfl ?_
    refine nx_getf fl_6_11 ((nx_put_ne hc).trans hw) rfl dX6_markToRead_17 rfl ?_
    refine nx_sipush (by decide +kernel) dX6_markToRead_20 rfl ?_
    refine nx_iload_n rfl dX6_markToRead_23 rfl ?_
    refine nx_iadd dX6_markToRead_24 rfl ?_
    refine nx_iald nx_put_self dX6_markToRead_25 rfl (fun x3 => ?_)
    refine nx_goto (q := 30) dX6_markToRead_26 (by decide) ?_
    exact nx_iret dX6_markToRead_30 rfl rfl
theorem cW_markToRead (l : Launch) {Γ : nx_G} {M0 : nx_M} {w c : Nat} (hw : M0.1 w = some (.inr (6, [.ref c]))) (hc : w ≠ c) {u : Nat} {f : (Nat → Int32)} {a1 : Int32} {a2 : Int32} {r : Int32}  (h : fW_markToRead u f a1 a2 = some r) : nx_Ct l Γ 2 yX6_markToRead cX6_markToRead 4 (some .int) [.ref w, .int a1, .int a2] (wW Γ M0 c f) (some (.int r), (wW Γ M0 c f)) :=
  nx_ct (out := fun r0 : Int32 => (some (.int r0), (wW Γ M0 c f))) [some (.ref w), some (.int a1), some (.int a2), none] pn_RX6 h (Nat.le_of_ble_eq_true rfl) rfl (fun X Z _ => jW_markToRead hw hc u f a1 a2 X Z)
theorem dX6_redo_0 : decode cX6_redo 0 = .ok (.aload_n 0, 1) := by decide +kernel
theorem dX6_redo_1 : decode cX6_redo 1 = .ok (.iload_n 1, 1) := by decide +kernel
theorem dX6_redo_2 : decode cX6_redo 2 = .ok (.iload_n 2, 1) := by decide +kernel
theorem dX6_redo_3 : decode cX6_redo 3 = .ok (.iconst 1, 1) := by decide +kernel
theorem dX6_redo_4 : decode cX6_redo 4 = .ok (.invokevirtual 165, 3) := by decide +kernel
theorem dX6_redo_7 : decode cX6_redo 7 = .ok (.istore_n 3, 1) := by decide +kernel
theorem dX6_redo_8 : decode cX6_redo 8 = .ok (.aload_n 0, 1) := by decide +kernel
theorem dX6_redo_9 : decode cX6_redo 9 = .ok (.iload_n 3, 1) := by decide +kernel
theorem dX6_redo_10 : decode cX6_redo 10 = .ok (.invokevirtual 72, 3) := by decide +kernel
theorem dX6_redo_13 : decode cX6_redo 13 = .ok (.ifCond .ne 5, 3) := by decide +kernel
theorem dX6_redo_16 : decode cX6_redo 16 = .ok (.iconst 0, 1) := by decide +kernel
theorem dX6_redo_17 : decode cX6_redo 17 = .ok (.ireturn, 1) := by decide +kernel
theorem dX6_redo_18 : decode cX6_redo 18 = .ok (.aload_n 0, 1) := by decide +kernel
theorem dX6_redo_19 : decode cX6_redo 19 = .ok (.iload_n 1, 1) := by decide +kernel
theorem dX6_redo_20 : decode cX6_redo 20 = .ok (.iload_n 2, 1) := by decide +kernel
theorem dX6_redo_21 : decode cX6_redo 21 = .ok (.iconst 0, 1) := by decide +kernel
theorem dX6_redo_22 : decode cX6_redo 22 = .ok (.invokevirtual 165, 3) := by decide +kernel
theorem dX6_redo_25 : decode cX6_redo 25 = .ok (.iconst 1, 1) := by decide +kernel
theorem dX6_redo_26 : decode cX6_redo 26 = .ok (.if_icmp .ne 12, 3) := by decide +kernel
theorem dX6_redo_29 : decode cX6_redo 29 = .ok (.aload_n 0, 1) := by decide +kernel
theorem dX6_redo_30 : decode cX6_redo 30 = .ok (.iload_n 1, 1) := by decide +kernel
theorem dX6_redo_31 : decode cX6_redo 31 = .ok (.iload_n 3, 1) := by decide +kernel
theorem dX6_redo_32 : decode cX6_redo 32 = .ok (.invokevirtual 100, 3) := by decide +kernel
theorem dX6_redo_35 : decode cX6_redo 35 = .ok (.pop, 1) := by decide +kernel
theorem dX6_redo_36 : decode cX6_redo 36 = .ok (.iconst 1, 1) := by decide +kernel
theorem dX6_redo_37 : decode cX6_redo 37 = .ok (.ireturn, 1) := by decide +kernel
theorem dX6_redo_38 : decode cX6_redo 38 = .ok (.aload_n 0, 1) := by decide +kernel
theorem dX6_redo_39 : decode cX6_redo 39 = .ok (.iload_n 1, 1) := by decide +kernel
theorem dX6_redo_40 : decode cX6_redo 40 = .ok (.iload_n 3, 1) := by decide +kernel
theorem dX6_redo_41 : decode cX6_redo 41 = .ok (.invokevirtual 75, 3) := by decide +kernel
theorem dX6_redo_44 : decode cX6_redo 44 = .ok (.ifCond .ne 25, 3) := by decide +kernel
theorem dX6_redo_47 : decode cX6_redo 47 = .ok (.aload_n 0, 1) := by decide +kernel
theorem dX6_redo_48 : decode cX6_redo 48 = .ok (.iload_n 1, 1) := by decide +kernel
theorem dX6_redo_49 : decode cX6_redo 49 = .ok (.iload_n 3, 1) := by decide +kernel
theorem dX6_redo_50 : decode cX6_redo 50 = .ok (.aload_n 0, 1) := by decide +kernel
theorem dX6_redo_51 : decode cX6_redo 51 = .ok (.iload_n 1, 1) := by decide +kernel
theorem dX6_redo_52 : decode cX6_redo 52 = .ok (.iload_n 2, 1) := by decide +kernel
theorem dX6_redo_53 : decode cX6_redo 53 = .ok (.iconst 2, 1) := by decide +kernel
theorem dX6_redo_54 : decode cX6_redo 54 = .ok (.invokevirtual 165, 3) := by decide +kernel
theorem dX6_redo_57 : decode cX6_redo 57 = .ok (.invokevirtual 103, 3) := by decide +kernel
theorem dX6_redo_60 : decode cX6_redo 60 = .ok (.bipush (-2), 2) := by decide +kernel
theorem dX6_redo_62 : decode cX6_redo 62 = .ok (.if_icmp .eq 7, 3) := by decide +kernel
theorem dX6_redo_65 : decode cX6_redo 65 = .ok (.iconst 1, 1) := by decide +kernel
theorem dX6_redo_66 : decode cX6_redo 66 = .ok (.goto 4, 3) := by decide +kernel
theorem dX6_redo_69 : decode cX6_redo 69 = .ok (.iconst 0, 1) := by decide +kernel
theorem dX6_redo_70 : decode cX6_redo 70 = .ok (.ireturn, 1) := by decide +kernel
def fW_redo (u : Nat) (f : (Nat → Int32)) (a1 : Int32) (a2 : Int32) : Option (Bool × (Nat → Int32)) :=
  (fW_deedPart u f a1 a2 (iz 1)).bind fun x1 =>
  (fW_hasKey u f x1).bind fun b2 =>
  if b2 = true then
    (fW_deedPart u f a1 a2 (iz 0)).bind fun x3 =>
    if x3 = (iz 1) then
      (fW_readKey u f a1 x1).bind fun p7 =>
      some (true, p7.2)
    else
      (fW_isFull u f a1 x1).bind fun b4 =>
      if b4 = true then
        some (false, f)
      else
        (fW_deedPart u f a1 a2 (iz 2)).bind fun x5 =>
        (fW_writeKey u f a1 x1 x5).bind fun p6 =>
        if p6.1 = (iz (-2)) then
          some (false, p6.2)
        else
          some (true, p6.2)
  else
    some (false, f)
set_option maxRecDepth 4000 in
theorem jW_redo {Γ : nx_G} {M0 : nx_M} {w c : Nat} (hw : M0.1 w = some (.inr (6, [.ref c]))) (hc : w ≠ c) (u : Nat) (f : (Nat → Int32)) (a1 : Int32) (a2 : Int32)   (X : nx_X) (Z : nx_Z) : nx_J Γ X (RX6, cX6_redo, 4, (some .boolean), "redo", 5) Z (fun r0 : Bool × (Nat → Int32) => .inr (some (.int (bz r0.1)), (wW Γ M0 c r0.2))) (.inl (0, [some (.ref w), some (.int a1), some (.int a2), none], [], (wW Γ M0 c f))) (fW_redo u f a1 a2) := by
  unfold fW_redo
  refine nx_aload_n rfl dX6_redo_0 rfl ?_
  refine nx_iload_n rfl dX6_redo_1 rfl ?_
  refine nx_iload_n rfl dX6_redo_2 rfl ?_
  refine nx_iconst dX6_redo_3 rfl ?_
  refine nx_callVr [.int a1, .int a2, .int (iz 1)] (fun r => .int r) (fun _ => (wW Γ M0 c f)) cw_6_165 cv_X6_deedPart (fun r e => cW_deedPart X.2.1 hw hc e) ((nx_put_ne hc).trans hw) rfl rfl (Nat.le_of_ble_eq_true rfl) (Nat.le_of_ble_eq_true rfl) dX6_redo_4 rfl (fun x1 => ?_)
  refine nx_istore_n [some (.ref w), some (.int a1), some (.int a2), some (.int x1)] dX6_redo_7 rfl (Nat.le_of_ble_eq_true rfl) rfl rfl ?_
  refine nx_aload_n rfl dX6_redo_8 rfl ?_
  refine nx_iload_n rfl dX6_redo_9 rfl ?_
  refine nx_callVr [.int x1] (fun r => .int (bz r)) (fun _ => (wW Γ M0 c f)) cw_6_72 cv_X6_hasKey (fun r e => cW_hasKey X.2.1 hw hc e) ((nx_put_ne hc).trans hw) rfl rfl (Nat.le_of_ble_eq_true rfl) (Nat.le_of_ble_eq_true rfl) dX6_redo_10 rfl (fun b2 => ?_)
  refine nx_ifz_ne (t := 18) dX6_redo_13 (by decide) rfl ?_ ?_
  · refine nx_aload_n rfl dX6_redo_18 rfl ?_
    refine nx_iload_n rfl dX6_redo_19 rfl ?_
    refine nx_iload_n rfl dX6_redo_20 rfl ?_
    refine nx_iconst dX6_redo_21 rfl ?_
    refine nx_callVr [.int a1, .int a2, .int (iz 0)] (fun r => .int r) (fun _ => (wW Γ M0 c f)) cw_6_165 cv_X6_deedPart (fun r e => cW_deedPart X.2.1 hw hc e) ((nx_put_ne hc).trans hw) rfl rfl (Nat.le_of_ble_eq_true rfl) (Nat.le_of_ble_eq_true rfl) dX6_redo_22 rfl (fun x3 => ?_)
    refine nx_iconst dX6_redo_25 rfl ?_
    refine nx_icmp_ne (t := 38) dX6_redo_26 (by decide) rfl ?_ ?_
    · refine nx_aload_n rfl dX6_redo_38 rfl ?_
      refine nx_iload_n rfl dX6_redo_39 rfl ?_
      refine nx_iload_n rfl dX6_redo_40 rfl ?_
      refine nx_callVr [.int a1, .int x1] (fun r => .int (bz r)) (fun _ => (wW Γ M0 c f)) cw_6_75 cv_X6_isFull (fun r e => cW_isFull X.2.1 hw hc e) ((nx_put_ne hc).trans hw) rfl rfl (Nat.le_of_ble_eq_true rfl) (Nat.le_of_ble_eq_true rfl) dX6_redo_41 rfl (fun b4 => ?_)
      refine nx_ifz_ne (t := 69) dX6_redo_44 (by decide) rfl ?_ ?_
      · refine nx_iconst dX6_redo_69 rfl ?_
        exact nx_zret (b := false) dX6_redo_70 rfl rfl
      · refine nx_aload_n rfl dX6_redo_47 rfl ?_
        refine nx_iload_n rfl dX6_redo_48 rfl ?_
        refine nx_iload_n rfl dX6_redo_49 rfl ?_
        refine nx_aload_n rfl dX6_redo_50 rfl ?_
        refine nx_iload_n rfl dX6_redo_51 rfl ?_
        refine nx_iload_n rfl dX6_redo_52 rfl ?_
        refine nx_iconst dX6_redo_53 rfl ?_
        refine nx_callVr [.int a1, .int a2, .int (iz 2)] (fun r => .int r) (fun _ => (wW Γ M0 c f)) cw_6_165 cv_X6_deedPart (fun r e => cW_deedPart X.2.1 hw hc e) ((nx_put_ne hc).trans hw) rfl rfl (Nat.le_of_ble_eq_true rfl) (Nat.le_of_ble_eq_true rfl) dX6_redo_54 rfl (fun x5 => ?_)
        refine nx_callVr [.int a1, .int x1, .int x5] (fun r => .int r.1) (fun r => (wW Γ M0 c r.2)) cw_6_103 cv_X6_writeKey (fun r e => cW_writeKey X.2.1 hw hc e) ((nx_put_ne hc).trans hw) rfl rfl (Nat.le_of_ble_eq_true rfl) (Nat.le_of_ble_eq_true rfl) dX6_redo_57 rfl (fun p6 => ?_)
        refine nx_bipush (by decide +kernel) dX6_redo_60 rfl ?_
        refine nx_icmp_eq (t := 69) dX6_redo_62 (by decide) rfl ?_ ?_
        · refine nx_iconst dX6_redo_69 rfl ?_
          exact nx_zret (b := false) dX6_redo_70 rfl rfl
        · refine nx_iconst dX6_redo_65 rfl ?_
          refine nx_goto (q := 70) dX6_redo_66 (by decide) ?_
          exact nx_zret (b := true) dX6_redo_70 rfl rfl
    · refine nx_aload_n rfl dX6_redo_29 rfl ?_
      refine nx_iload_n rfl dX6_redo_30 rfl ?_
      refine nx_iload_n rfl dX6_redo_31 rfl ?_
      refine nx_callVr [.int a1, .int x1] (fun r => .int r.1) (fun r => (wW Γ M0 c r.2)) cw_6_100 cv_X6_readKey (fun r e => cW_readKey X.2.1 hw hc e) ((nx_put_ne hc).trans hw) rfl rfl (Nat.le_of_ble_eq_true rfl) (Nat.le_of_ble_eq_true rfl) dX6_redo_32 rfl (fun p7 => ?_)
      refine nx_pop rfl dX6_redo_35 rfl ?_
      refine nx_iconst dX6_redo_36 rfl ?_
      exact nx_zret (b := true) dX6_redo_37 rfl rfl
  · refine nx_iconst dX6_redo_16 rfl ?_
    exact nx_zret (b := false) dX6_redo_17 rfl rfl
theorem cW_redo (l : Launch) {Γ : nx_G} {M0 : nx_M} {w c : Nat} (hw : M0.1 w = some (.inr (6, [.ref c]))) (hc : w ≠ c) {u : Nat} {f : (Nat → Int32)} {a1 : Int32} {a2 : Int32} {r : Bool × (Nat → Int32)}  (h : fW_redo u f a1 a2 = some r) : nx_Ct l Γ 5 yX6_redo cX6_redo 4 (some .boolean) [.ref w, .int a1, .int a2] (wW Γ M0 c f) (some (.int (bz r.1)), (wW Γ M0 c r.2)) :=
  nx_ct (out := fun r0 : Bool × (Nat → Int32) => (some (.int (bz r0.1)), (wW Γ M0 c r0.2))) [some (.ref w), some (.int a1), some (.int a2), none] pn_RX6 h (Nat.le_of_ble_eq_true rfl) rfl (fun X Z _ => jW_redo hw hc u f a1 a2 X Z)
theorem dX6_redoAll_0 : decode cX6_redoAll 0 = .ok (.aload_n 0, 1) := by decide +kernel
theorem dX6_redoAll_1 : decode cX6_redoAll 1 = .ok (.getfield 11, 3) := by decide +kernel
theorem dX6_redoAll_4 : decode cX6_redoAll 4 = .ok (.bipush 80, 2) := by decide +kernel
theorem dX6_redoAll_6 : decode cX6_redoAll 6 = .ok (.iload_n 1, 1) := by decide +kernel
theorem dX6_redoAll_7 : decode cX6_redoAll 7 = .ok (.iadd, 1) := by decide +kernel
theorem dX6_redoAll_8 : decode cX6_redoAll 8 = .ok (.iaload, 1) := by decide +kernel
theorem dX6_redoAll_9 : decode cX6_redoAll 9 = .ok (.istore_n 2, 1) := by decide +kernel
theorem dX6_redoAll_10 : decode cX6_redoAll 10 = .ok (.aload_n 0, 1) := by decide +kernel
theorem dX6_redoAll_11 : decode cX6_redoAll 11 = .ok (.iload_n 1, 1) := by decide +kernel
theorem dX6_redoAll_12 : decode cX6_redoAll 12 = .ok (.aload_n 0, 1) := by decide +kernel
theorem dX6_redoAll_13 : decode cX6_redoAll 13 = .ok (.getfield 11, 3) := by decide +kernel
theorem dX6_redoAll_16 : decode cX6_redoAll 16 = .ok (.bipush 56, 2) := by decide +kernel
theorem dX6_redoAll_18 : decode cX6_redoAll 18 = .ok (.iload_n 1, 1) := by decide +kernel
theorem dX6_redoAll_19 : decode cX6_redoAll 19 = .ok (.iadd, 1) := by decide +kernel
theorem dX6_redoAll_20 : decode cX6_redoAll 20 = .ok (.iaload, 1) := by decide +kernel
theorem dX6_redoAll_21 : decode cX6_redoAll 21 = .ok (.aload_n 0, 1) := by decide +kernel
theorem dX6_redoAll_22 : decode cX6_redoAll 22 = .ok (.invokevirtual 84, 3) := by decide +kernel
theorem dX6_redoAll_25 : decode cX6_redoAll 25 = .ok (.invokevirtual 88, 3) := by decide +kernel
theorem dX6_redoAll_28 : decode cX6_redoAll 28 = .ok (.aload_n 0, 1) := by decide +kernel
theorem dX6_redoAll_29 : decode cX6_redoAll 29 = .ok (.getfield 11, 3) := by decide +kernel
theorem dX6_redoAll_32 : decode cX6_redoAll 32 = .ok (.bipush 80, 2) := by decide +kernel
theorem dX6_redoAll_34 : decode cX6_redoAll 34 = .ok (.iload_n 1, 1) := by decide +kernel
theorem dX6_redoAll_35 : decode cX6_redoAll 35 = .ok (.iadd, 1) := by decide +kernel
theorem dX6_redoAll_36 : decode cX6_redoAll 36 = .ok (.iload_n 2, 1) := by decide +kernel
theorem dX6_redoAll_37 : decode cX6_redoAll 37 = .ok (.iastore, 1) := by decide +kernel
theorem dX6_redoAll_38 : decode cX6_redoAll 38 = .ok (.iconst 0, 1) := by decide +kernel
theorem dX6_redoAll_39 : decode cX6_redoAll 39 = .ok (.istore_n 3, 1) := by decide +kernel
theorem dX6_redoAll_40 : decode cX6_redoAll 40 = .ok (.iconst 0, 1) := by decide +kernel
theorem dX6_redoAll_41 : decode cX6_redoAll 41 = .ok (.istore 4, 2) := by decide +kernel
theorem dX6_redoAll_43 : decode cX6_redoAll 43 = .ok (.iload 4, 2) := by decide +kernel
theorem dX6_redoAll_45 : decode cX6_redoAll 45 = .ok (.bipush 12, 2) := by decide +kernel
theorem dX6_redoAll_47 : decode cX6_redoAll 47 = .ok (.if_icmp .ge 31, 3) := by decide +kernel
theorem dX6_redoAll_50 : decode cX6_redoAll 50 = .ok (.iload 4, 2) := by decide +kernel
theorem dX6_redoAll_52 : decode cX6_redoAll 52 = .ok (.iload_n 2, 1) := by decide +kernel
theorem dX6_redoAll_53 : decode cX6_redoAll 53 = .ok (.if_icmp .ge 25, 3) := by decide +kernel
theorem dX6_redoAll_56 : decode cX6_redoAll 56 = .ok (.aload_n 0, 1) := by decide +kernel
theorem dX6_redoAll_57 : decode cX6_redoAll 57 = .ok (.iload_n 1, 1) := by decide +kernel
theorem dX6_redoAll_58 : decode cX6_redoAll 58 = .ok (.iload 4, 2) := by decide +kernel
theorem dX6_redoAll_60 : decode cX6_redoAll 60 = .ok (.invokevirtual 162, 3) := by decide +kernel
theorem dX6_redoAll_63 : decode cX6_redoAll 63 = .ok (.ifCond .ne 6, 3) := by decide +kernel
theorem dX6_redoAll_66 : decode cX6_redoAll 66 = .ok (.goto 12, 3) := by decide +kernel
theorem dX6_redoAll_69 : decode cX6_redoAll 69 = .ok (.iinc 3 1, 3) := by decide +kernel
theorem dX6_redoAll_72 : decode cX6_redoAll 72 = .ok (.iinc 4 1, 3) := by decide +kernel
theorem dX6_redoAll_75 : decode cX6_redoAll 75 = .ok (.goto (-32), 3) := by decide +kernel
theorem dX6_redoAll_78 : decode cX6_redoAll 78 = .ok (.iload_n 3, 1) := by decide +kernel
theorem dX6_redoAll_79 : decode cX6_redoAll 79 = .ok (.ireturn, 1) := by decide +kernel
def fW_redoAll_43 (u : Nat) (a1 : Int32) (x1 : Int32) (s6 : Int32 × Int32 × (Nat → Int32)) : Option ((Int32 × Int32 × (Nat → Int32)) ⊕ (Int32 × (Nat → Int32))) :=
  if (iz 12) ≤ s6.2.1 then
    some (.inr (s6.1, s6.2.2))
  else
    if x1 ≤ s6.2.1 then
      some (.inr (s6.1, s6.2.2))
    else
      (fW_redo u s6.2.2 a1 s6.2.1).bind fun p7 =>
      if p7.1 = true then
        some (.inl ((s6.1 + iz 1), (s6.2.1 + iz 1), p7.2))
      else
        some (.inr (s6.1, p7.2))
def fW_redoAll (u : Nat) (f : (Nat → Int32)) (a1 : Int32) : Option (Int32 × (Nat → Int32)) :=
  (nx_rd 514 f ((iz 80) + a1)).bind fun x1 =>
  (nx_rd 514 f ((iz 56) + a1)).bind fun x2 =>
  (fW_ticked u f).bind fun p3 =>
  (fW_enter u p3.2 a1 x2 p3.1).bind fun g4 =>
  (nx_wr 514 g4 ((iz 80) + a1) x1).bind fun f5 =>
  (nx_iter u (fW_redoAll_43 u a1 x1) ((iz 0), (iz 0), f5)).bind fun e8 =>
  some (e8.1, e8.2)
set_option maxRecDepth 4000 in
theorem jW_redoAll_43 {Γ : nx_G} {M0 : nx_M} {w c : Nat} (hw : M0.1 w = some (.inr (6, [.ref c]))) (hc : w ≠ c) (u : Nat) (a1 : Int32) (x1 : Int32)   (X : nx_X) (Z : nx_Z) (s6 : Int32 × Int32 × (Nat → Int32)) : nx_J Γ X (RX6, cX6_redoAll, 5, (some .int), "redoAll", 6) Z (Sum.elim (fun s6 : Int32 × Int32 × (Nat → Int32) => .inl (43, [some (.ref w), some (.int a1), some (.int x1), some (.int s6.1), some (.int s6.2.1)], [], (wW Γ M0 c s6.2.2))) (fun e8 : Int32 × (Nat → Int32) => .inl (78, [some (.ref w), some (.int a1), some (.int x1), some (.int e8.1), none], [], (wW Γ M0 c e8.2)))) (.inl (43, [some (.ref w), some (.int a1), some (.int x1), some (.int s6.1), some (.int s6.2.1)], [], (wW Γ M0 c s6.2.2))) (fW_redoAll_43 u a1 x1 s6) := by
  unfold fW_redoAll_43
  refine nx_iload rfl dX6_redoAll_43 rfl ?_
  refine nx_bipush (by decide +kernel) dX6_redoAll_45 rfl ?_
  refine nx_icmp_ge (t := 78) dX6_redoAll_47 (by decide) rfl ?_ ?_
  · refine nx_weak (ls' := [some (.ref w), some (.int a1), some (.int x1), some (.int s6.1), none]) (nx_wk_s (nx_wk_s (nx_wk_s (nx_wk_s (nx_wk_n nx_wk_e))))) ?_
    obtain ⟨_, _, _⟩ := s6
    exact nx_leaf rfl
  · refine nx_iload rfl dX6_redoAll_50 rfl ?_
    refine nx_iload_n rfl dX6_redoAll_52 rfl ?_
    refine nx_icmp_ge (t := 78) dX6_redoAll_53 (by decide) rfl ?_ ?_
    · refine nx_weak (ls' := [some (.ref w), some (.int a1), some (.int x1), some (.int s6.1), none]) (nx_wk_s (nx_wk_s (nx_wk_s (nx_wk_s (nx_wk_n nx_wk_e))))) ?_
      obtain ⟨_, _, _⟩ := s6
      exact nx_leaf rfl
    · refine nx_aload_n rfl dX6_redoAll_56 rfl ?_
      refine nx_iload_n rfl dX6_redoAll_57 rfl ?_
      refine nx_iload rfl dX6_redoAll_58 rfl ?_
      refine nx_callVr [.int a1, .int s6.2.1] (fun r => .int (bz r.1)) (fun r => (wW Γ M0 c r.2)) cw_6_162 cv_X6_redo (fun r e => cW_redo X.2.1 hw hc e) ((nx_put_ne hc).trans hw) rfl rfl (Nat.le_of_ble_eq_true rfl) (Nat.le_of_ble_eq_true rfl) dX6_redoAll_60 rfl (fun p7 => ?_)
      refine nx_ifz_ne (t := 69) dX6_redoAll_63 (by decide) rfl ?_ ?_
      · refine nx_iinc [some (.ref w), some (.int a1), some (.int x1), some (.int (s6.1 + iz 1)), some (.int s6.2.1)] dX6_redoAll_69 rfl rfl (Nat.le_of_ble_eq_true rfl) rfl rfl ?_
        refine nx_iinc [some (.ref w), some (.int a1), some (.int x1), some (.int (s6.1 + iz 1)), some (.int (s6.2.1 + iz 1))] dX6_redoAll_72 rfl rfl (Nat.le_of_ble_eq_true rfl) rfl rfl ?_
        refine nx_goto (q := 43) dX6_redoAll_75 (by decide) ?_
        obtain ⟨_, _, _⟩ := s6
        obtain ⟨_, _⟩ := p7
        exact nx_leaf rfl
      · refine nx_goto (q := 78) dX6_redoAll_66 (by decide) ?_
        refine nx_weak (ls' := [some (.ref w), some (.int a1), some (.int x1), some (.int s6.1), none]) (nx_wk_s (nx_wk_s (nx_wk_s (nx_wk_s (nx_wk_n nx_wk_e))))) ?_
        obtain ⟨_, _, _⟩ := s6
        obtain ⟨_, _⟩ := p7
        exact nx_leaf rfl
set_option maxRecDepth 4000 in
theorem jW_redoAll {Γ : nx_G} {M0 : nx_M} {w c : Nat} (hw : M0.1 w = some (.inr (6, [.ref c]))) (hc : w ≠ c) (u : Nat) (f : (Nat → Int32)) (a1 : Int32)   (X : nx_X) (Z : nx_Z) : nx_J Γ X (RX6, cX6_redoAll, 5, (some .int), "redoAll", 6) Z (fun r0 : Int32 × (Nat → Int32) => .inr (some (.int r0.1), (wW Γ M0 c r0.2))) (.inl (0, [some (.ref w), some (.int a1), none, none, none], [], (wW Γ M0 c f))) (fW_redoAll u f a1) := by
  unfold fW_redoAll
  refine nx_aload_n rfl dX6_redoAll_0 rfl ?_
  refine nx_getf fl_6_11 ((nx_put_ne hc).trans hw) rfl dX6_redoAll_1 rfl ?_
  refine nx_bipush (by decide +kernel) dX6_redoAll_4 rfl ?_
  refine nx_iload_n rfl dX6_redoAll_6 rfl ?_
  refine nx_iadd dX6_redoAll_7 rfl ?_
  refine nx_iald nx_put_self dX6_redoAll_8 rfl (fun x1 => ?_)
  refine nx_istore_n [some (.ref w), some (.int a1), some (.int x1), none, none] dX6_redoAll_9 rfl (Nat.le_of_ble_eq_true rfl) rfl rfl ?_
  refine nx_aload_n rfl dX6_redoAll_10 rfl ?_
  refine nx_iload_n rfl dX6_redoAll_11 rfl ?_
  refine nx_aload_n rfl dX6_redoAll_12 rfl ?_
  refine nx_getf fl_6_11 ((nx_put_ne hc).trans hw) rfl dX6_redoAll_13 rfl ?_
  refine nx_bipush (by decide +kernel) dX6_redoAll_16 rfl ?_
  refine nx_iload_n rfl dX6_redoAll_18 rfl ?_
  refine nx_iadd dX6_redoAll_19 rfl ?_
  refine nx_iald nx_put_self dX6_redoAll_20 rfl (fun x2 => ?_)
  refine nx_aload_n rfl dX6_redoAll_21 rfl ?_
  refine nx_callVr [] (fun r => .int r.1) (fun r => (wW Γ M0 c r.2)) cw_6_84 cv_X6_ticked (fun r e => cW_ticked X.2.1 hw hc e) ((nx_put_ne hc).trans hw) rfl rfl (Nat.le_of_ble_eq_true rfl) (Nat.le_of_ble_eq_true rfl) dX6_redoAll_22 rfl (fun p3 => ?_)
  refine nx_callVv [.int a1, .int x2, .int p3.1] (fun r => (wW Γ M0 c r)) cw_6_88 cv_X6_enter (fun r e => cW_enter X.2.1 hw hc e) ((nx_put_ne hc).trans hw) rfl rfl (Nat.le_of_ble_eq_true rfl) (Nat.le_of_ble_eq_true rfl) dX6_redoAll_25 rfl (fun g4 => ?_)
  refine nx_aload_n rfl dX6_redoAll_28 rfl ?_
  refine nx_getf fl_6_11 ((nx_put_ne hc).trans hw) rfl dX6_redoAll_29 rfl ?_
  refine nx_bipush (by decide +kernel) dX6_redoAll_32 rfl ?_
  refine nx_iload_n rfl dX6_redoAll_34 rfl ?_
  refine nx_iadd dX6_redoAll_35 rfl ?_
  refine nx_iload_n rfl dX6_redoAll_36 rfl ?_
  refine w_iast dX6_redoAll_37 rfl (fun f5 => ?_)
  refine nx_iconst dX6_redoAll_38 rfl ?_
  refine nx_istore_n [some (.ref w), some (.int a1), some (.int x1), some (.int (iz 0)), none] dX6_redoAll_39 rfl (Nat.le_of_ble_eq_true rfl) rfl rfl ?_
  refine nx_iconst dX6_redoAll_40 rfl ?_
  refine nx_istore [some (.ref w), some (.int a1), some (.int x1), some (.int (iz 0)), some (.int (iz 0))] dX6_redoAll_41 rfl (Nat.le_of_ble_eq_true rfl) rfl rfl ?_
  refine nx_seq (C1 := fun e8 : Int32 × (Nat → Int32) => .inl (78, [some (.ref w), some (.int a1), some (.int x1), some (.int e8.1), none], [], (wW Γ M0 c e8.2))) (nx_loop (C1 := fun s6 : Int32 × Int32 × (Nat → Int32) => .inl (43, [some (.ref w), some (.int a1), some (.int x1), some (.int s6.1), some (.int s6.2.1)], [], (wW Γ M0 c s6.2.2))) (fun s6 => jW_redoAll_43 hw hc u a1 x1 X Z s6) ((iz 0), (iz 0), f5)) (fun e8 => ?_)
  refine nx_iload_n rfl dX6_redoAll_78 rfl ?_
  exact nx_iret dX6_redoAll_79 rfl rfl
theorem cW_redoAll (l : Launch) {Γ : nx_G} {M0 : nx_M} {w c : Nat} (hw : M0.1 w = some (.inr (6, [.ref c]))) (hc : w ≠ c) {u : Nat} {f : (Nat → Int32)} {a1 : Int32} {r : Int32 × (Nat → Int32)}  (h : fW_redoAll u f a1 = some r) : nx_Ct l Γ 6 yX6_redoAll cX6_redoAll 5 (some .int) [.ref w, .int a1] (wW Γ M0 c f) (some (.int r.1), (wW Γ M0 c r.2)) :=
  nx_ct (out := fun r0 : Int32 × (Nat → Int32) => (some (.int r0.1), (wW Γ M0 c r0.2))) [some (.ref w), some (.int a1), none, none, none] pn_RX6 h (Nat.le_of_ble_eq_true rfl) rfl (fun X Z _ => jW_redoAll hw hc u f a1 X Z)
theorem dX6_sureValueAt_0 : decode cX6_sureValueAt 0 = .ok (.aload_n 0, 1) := by decide +kernel
theorem dX6_sureValueAt_1 : decode cX6_sureValueAt 1 = .ok (.iload_n 1, 1) := by decide +kernel
theorem dX6_sureValueAt_2 : decode cX6_sureValueAt 2 = .ok (.iload_n 2, 1) := by decide +kernel
theorem dX6_sureValueAt_3 : decode cX6_sureValueAt 3 = .ok (.invokevirtual 174, 3) := by decide +kernel
theorem dX6_sureValueAt_6 : decode cX6_sureValueAt 6 = .ok (.istore_n 3, 1) := by decide +kernel
theorem dX6_sureValueAt_7 : decode cX6_sureValueAt 7 = .ok (.iload_n 3, 1) := by decide +kernel
theorem dX6_sureValueAt_8 : decode cX6_sureValueAt 8 = .ok (.bipush 54, 2) := by decide +kernel
theorem dX6_sureValueAt_10 : decode cX6_sureValueAt 10 = .ok (.invokestatic 33, 3) := by decide +kernel
theorem dX6_sureValueAt_13 : decode cX6_sureValueAt 13 = .ok (.ifCond .eq 16, 3) := by decide +kernel
theorem dX6_sureValueAt_16 : decode cX6_sureValueAt 16 = .ok (.aload_n 0, 1) := by decide +kernel
theorem dX6_sureValueAt_17 : decode cX6_sureValueAt 17 = .ok (.getfield 11, 3) := by decide +kernel
theorem dX6_sureValueAt_20 : decode cX6_sureValueAt 20 = .ok (.sipush 292, 3) := by decide +kernel
theorem dX6_sureValueAt_23 : decode cX6_sureValueAt 23 = .ok (.iload_n 3, 1) := by decide +kernel
theorem dX6_sureValueAt_24 : decode cX6_sureValueAt 24 = .ok (.iadd, 1) := by decide +kernel
theorem dX6_sureValueAt_25 : decode cX6_sureValueAt 25 = .ok (.iaload, 1) := by decide +kernel
theorem dX6_sureValueAt_26 : decode cX6_sureValueAt 26 = .ok (.goto 4, 3) := by decide +kernel
theorem dX6_sureValueAt_29 : decode cX6_sureValueAt 29 = .ok (.iconst (-1), 1) := by decide +kernel
theorem dX6_sureValueAt_30 : decode cX6_sureValueAt 30 = .ok (.ireturn, 1) := by decide +kernel
def fW_sureValueAt (u : Nat) (f : (Nat → Int32)) (a1 : Int32) (a2 : Int32) : Option (Int32) :=
  (fW_lastSureSlot u f a1 a2).bind fun x1 =>
  (fL_within u x1 (iz 54)).bind fun b2 =>
  if b2 = true then
    (nx_rd 514 f ((iz 292) + x1)).bind fun x3 =>
    some x3
  else
    some (iz (-1))
set_option maxRecDepth 4000 in
theorem jW_sureValueAt {Γ : nx_G} {M0 : nx_M} {w c : Nat} (hw : M0.1 w = some (.inr (6, [.ref c]))) (hc : w ≠ c) (u : Nat) (f : (Nat → Int32)) (a1 : Int32) (a2 : Int32)   (X : nx_X) (Z : nx_Z) : nx_J Γ X (RX6, cX6_sureValueAt, 4, (some .int), "sureValueAt", 2) Z (fun r0 : Int32 => .inr (some (.int r0), (wW Γ M0 c f))) (.inl (0, [some (.ref w), some (.int a1), some (.int a2), none], [], (wW Γ M0 c f))) (fW_sureValueAt u f a1 a2) := by
  unfold fW_sureValueAt
  refine nx_aload_n rfl dX6_sureValueAt_0 rfl ?_
  refine nx_iload_n rfl dX6_sureValueAt_1 rfl ?_
  refine nx_iload_n rfl dX6_sureValueAt_2 rfl ?_
  refine nx_callVr [.int a1, .int a2] (fun r => .int r) (fun _ => (wW Γ M0 c f)) cw_6_174 cv_X6_lastSureSlot (fun r e => cW_lastSureSlot X.2.1 hw hc e) ((nx_put_ne hc).trans hw) rfl rfl (Nat.le_of_ble_eq_true rfl) (Nat.le_of_ble_eq_true rfl) dX6_sureValueAt_3 rfl (fun x1 => ?_)
  refine nx_istore_n [some (.ref w), some (.int a1), some (.int a2), some (.int x1)] dX6_sureValueAt_6 rfl (Nat.le_of_ble_eq_true rfl) rfl rfl ?_
  refine nx_iload_n rfl dX6_sureValueAt_7 rfl ?_
  refine nx_bipush (by decide +kernel) dX6_sureValueAt_8 rfl ?_
  refine nx_callSr [.int x1, .int (iz 54)] (fun r => .int (bz r)) (fun _ => (wW Γ M0 c f)) cw_6_33 wd_442 (fun r e => cL_within X.2.1  e) rfl rfl (Nat.le_of_ble_eq_true rfl) (Nat.le_of_ble_eq_true rfl) dX6_sureValueAt_10 rfl (fun b2 => ?_)
  refine nx_ifz_eq (t := 29) dX6_sureValueAt_13 (by decide) rfl ?_ ?_
  · refine nx_iconst dX6_sureValueAt_29 rfl ?_
    exact nx_iret dX6_sureValueAt_30 rfl rfl
  · refine nx_aload_n rfl dX6_sureValueAt_16 rfl ?_
    refine nx_getf fl_6_11 ((nx_put_ne hc).trans hw) rfl dX6_sureValueAt_17 rfl ?_
    refine nx_sipush (by decide +kernel) dX6_sureValueAt_20 rfl ?_
    refine nx_iload_n rfl dX6_sureValueAt_23 rfl ?_
    refine nx_iadd dX6_sureValueAt_24 rfl ?_
    refine nx_iald nx_put_self dX6_sureValueAt_25 rfl (fun x3 => ?_)
    refine nx_goto (q := 30) dX6_sureValueAt_26 (by decide) ?_
    exact nx_iret dX6_sureValueAt_30 rfl rfl
theorem cW_sureValueAt (l : Launch) {Γ : nx_G} {M0 : nx_M} {w c : Nat} (hw : M0.1 w = some (.inr (6, [.ref c]))) (hc : w ≠ c) {u : Nat} {f : (Nat → Int32)} {a1 : Int32} {a2 : Int32} {r : Int32}  (h : fW_sureValueAt u f a1 a2 = some r) : nx_Ct l Γ 2 yX6_sureValueAt cX6_sureValueAt 4 (some .int) [.ref w, .int a1, .int a2] (wW Γ M0 c f) (some (.int r), (wW Γ M0 c f)) :=
  nx_ct (out := fun r0 : Int32 => (some (.int r0), (wW Γ M0 c f))) [some (.ref w), some (.int a1), some (.int a2), none] pn_RX6 h (Nat.le_of_ble_eq_true rfl) rfl (fun X Z _ => jW_sureValueAt hw hc u f a1 a2 X Z)
theorem dX6_logLength_0 : decode cX6_logLength 0 = .ok (.aload_n 0, 1) := by decide +kernel
theorem dX6_logLength_1 : decode cX6_logLength 1 = .ok (.getfield 11, 3) := by decide +kernel
theorem dX6_logLength_4 : decode cX6_logLength 4 = .ok (.bipush 8, 2) := by decide +kernel
theorem dX6_logLength_6 : decode cX6_logLength 6 = .ok (.iaload, 1) := by decide +kernel
theorem dX6_logLength_7 : decode cX6_logLength 7 = .ok (.ireturn, 1) := by decide +kernel
def fW_logLength (u : Nat) (f : (Nat → Int32)) : Option (Int32) :=
  (nx_rd 514 f (iz 8)).bind fun x1 =>
  some x1
set_option maxRecDepth 4000 in
theorem jW_logLength {Γ : nx_G} {M0 : nx_M} {w c : Nat} (hw : M0.1 w = some (.inr (6, [.ref c]))) (hc : w ≠ c) (u : Nat) (f : (Nat → Int32))   (X : nx_X) (Z : nx_Z) : nx_J Γ X (RX6, cX6_logLength, 1, (some .int), "logLength", 1) Z (fun r0 : Int32 => .inr (some (.int r0), (wW Γ M0 c f))) (.inl (0, [some (.ref w)], [], (wW Γ M0 c f))) (fW_logLength u f) := by
  unfold fW_logLength
  refine nx_aload_n rfl dX6_logLength_0 rfl ?_
  refine nx_getf fl_6_11 ((nx_put_ne hc).trans hw) rfl dX6_logLength_1 rfl ?_
  refine nx_bipush (by decide +kernel) dX6_logLength_4 rfl ?_
  refine nx_iald nx_put_self dX6_logLength_6 rfl (fun x1 => ?_)
  exact nx_iret dX6_logLength_7 rfl rfl
theorem cW_logLength (l : Launch) {Γ : nx_G} {M0 : nx_M} {w c : Nat} (hw : M0.1 w = some (.inr (6, [.ref c]))) (hc : w ≠ c) {u : Nat} {f : (Nat → Int32)} {r : Int32}  (h : fW_logLength u f = some r) : nx_Ct l Γ 1 yX6_logLength cX6_logLength 1 (some .int) [.ref w] (wW Γ M0 c f) (some (.int r), (wW Γ M0 c f)) :=
  nx_ct (out := fun r0 : Int32 => (some (.int r0), (wW Γ M0 c f))) [some (.ref w)] pn_RX6 h (Nat.le_of_ble_eq_true rfl) rfl (fun X Z _ => jW_logLength hw hc u f X Z)
theorem dX6_logPart_0 : decode cX6_logPart 0 = .ok (.aload_n 0, 1) := by decide +kernel
theorem dX6_logPart_1 : decode cX6_logPart 1 = .ok (.getfield 11, 3) := by decide +kernel
theorem dX6_logPart_4 : decode cX6_logPart 4 = .ok (.bipush 9, 2) := by decide +kernel
theorem dX6_logPart_6 : decode cX6_logPart 6 = .ok (.iaload, 1) := by decide +kernel
theorem dX6_logPart_7 : decode cX6_logPart 7 = .ok (.iconst 1, 1) := by decide +kernel
theorem dX6_logPart_8 : decode cX6_logPart 8 = .ok (.isub, 1) := by decide +kernel
theorem dX6_logPart_9 : decode cX6_logPart 9 = .ok (.iload_n 1, 1) := by decide +kernel
theorem dX6_logPart_10 : decode cX6_logPart 10 = .ok (.isub, 1) := by decide +kernel
theorem dX6_logPart_11 : decode cX6_logPart 11 = .ok (.istore_n 3, 1) := by decide +kernel
theorem dX6_logPart_12 : decode cX6_logPart 12 = .ok (.iload_n 3, 1) := by decide +kernel
theorem dX6_logPart_13 : decode cX6_logPart 13 = .ok (.ifCond .ge 6, 3) := by decide +kernel
theorem dX6_logPart_16 : decode cX6_logPart 16 = .ok (.iinc 3 60, 3) := by decide +kernel
theorem dX6_logPart_19 : decode cX6_logPart 19 = .ok (.iload_n 3, 1) := by decide +kernel
theorem dX6_logPart_20 : decode cX6_logPart 20 = .ok (.bipush 60, 2) := by decide +kernel
theorem dX6_logPart_22 : decode cX6_logPart 22 = .ok (.invokestatic 33, 3) := by decide +kernel
theorem dX6_logPart_25 : decode cX6_logPart 25 = .ok (.ifCond .ne 6, 3) := by decide +kernel
theorem dX6_logPart_28 : decode cX6_logPart 28 = .ok (.ldc 177, 2) := by decide +kernel
theorem dX6_logPart_30 : decode cX6_logPart 30 = .ok (.ireturn, 1) := by decide +kernel
theorem dX6_logPart_31 : decode cX6_logPart 31 = .ok (.aload_n 0, 1) := by decide +kernel
theorem dX6_logPart_32 : decode cX6_logPart 32 = .ok (.getfield 11, 3) := by decide +kernel
theorem dX6_logPart_35 : decode cX6_logPart 35 = .ok (.sipush 454, 3) := by decide +kernel
theorem dX6_logPart_38 : decode cX6_logPart 38 = .ok (.iload_n 3, 1) := by decide +kernel
theorem dX6_logPart_39 : decode cX6_logPart 39 = .ok (.iadd, 1) := by decide +kernel
theorem dX6_logPart_40 : decode cX6_logPart 40 = .ok (.iaload, 1) := by decide +kernel
theorem dX6_logPart_41 : decode cX6_logPart 41 = .ok (.istore 4, 2) := by decide +kernel
theorem dX6_logPart_43 : decode cX6_logPart 43 = .ok (.iload_n 2, 1) := by decide +kernel
theorem dX6_logPart_44 : decode cX6_logPart 44 = .ok (.ifCond .ne 9, 3) := by decide +kernel
theorem dX6_logPart_47 : decode cX6_logPart 47 = .ok (.iload 4, 2) := by decide +kernel
theorem dX6_logPart_49 : decode cX6_logPart 49 = .ok (.bipush 7, 2) := by decide +kernel
theorem dX6_logPart_51 : decode cX6_logPart 51 = .ok (.iand, 1) := by decide +kernel
theorem dX6_logPart_52 : decode cX6_logPart 52 = .ok (.ireturn, 1) := by decide +kernel
theorem dX6_logPart_53 : decode cX6_logPart 53 = .ok (.iload_n 2, 1) := by decide +kernel
theorem dX6_logPart_54 : decode cX6_logPart 54 = .ok (.iconst 1, 1) := by decide +kernel
theorem dX6_logPart_55 : decode cX6_logPart 55 = .ok (.if_icmp .ne 15, 3) := by decide +kernel
theorem dX6_logPart_58 : decode cX6_logPart 58 = .ok (.iload 4, 2) := by decide +kernel
theorem dX6_logPart_60 : decode cX6_logPart 60 = .ok (.iconst 3, 1) := by decide +kernel
theorem dX6_logPart_61 : decode cX6_logPart 61 = .ok (.ishr, 1) := by decide +kernel
theorem dX6_logPart_62 : decode cX6_logPart 62 = .ok (.bipush 15, 2) := by decide +kernel
theorem dX6_logPart_64 : decode cX6_logPart 64 = .ok (.iand, 1) := by decide +kernel
theorem dX6_logPart_65 : decode cX6_logPart 65 = .ok (.iconst 1, 1) := by decide +kernel
theorem dX6_logPart_66 : decode cX6_logPart 66 = .ok (.isub, 1) := by decide +kernel
theorem dX6_logPart_67 : decode cX6_logPart 67 = .ok (.goto 10, 3) := by decide +kernel
theorem dX6_logPart_70 : decode cX6_logPart 70 = .ok (.iload 4, 2) := by decide +kernel
theorem dX6_logPart_72 : decode cX6_logPart 72 = .ok (.bipush 7, 2) := by decide +kernel
theorem dX6_logPart_74 : decode cX6_logPart 74 = .ok (.ishr, 1) := by decide +kernel
theorem dX6_logPart_75 : decode cX6_logPart 75 = .ok (.iconst 2, 1) := by decide +kernel
theorem dX6_logPart_76 : decode cX6_logPart 76 = .ok (.isub, 1) := by decide +kernel
theorem dX6_logPart_77 : decode cX6_logPart 77 = .ok (.ireturn, 1) := by decide +kernel
def fW_logPart (u : Nat) (f : (Nat → Int32)) (a1 : Int32) (a2 : Int32) : Option (Int32) :=
  (nx_rd 514 f (iz 9)).bind fun x1 =>
  (if iz 0 ≤ ((x1 - (iz 1)) - a1) then
     some ((x1 - (iz 1)) - a1)
   else
     some (((x1 - (iz 1)) - a1) + iz 60) : Option (Int32)).bind fun s2 =>
  (fL_within u s2 (iz 60)).bind fun b3 =>
  if b3 = true then
    (nx_rd 514 f ((iz 454) + s2)).bind fun x4 =>
    if a2 = iz 0 then
      some (x4 &&& (iz 7))
    else
      if a2 = (iz 1) then
        some (((x4 >>> ((iz 3) &&& 31)) &&& (iz 15)) - (iz 1))
      else
        some ((x4 >>> ((iz 7) &&& 31)) - (iz 2))
  else
    some ((-1000000) : Int32)
set_option maxRecDepth 4000 in
theorem jW_logPart {Γ : nx_G} {M0 : nx_M} {w c : Nat} (hw : M0.1 w = some (.inr (6, [.ref c]))) (hc : w ≠ c) (u : Nat) (f : (Nat → Int32)) (a1 : Int32) (a2 : Int32)   (X : nx_X) (Z : nx_Z) : nx_J Γ X (RX6, cX6_logPart, 5, (some .int), "logPart", 2) Z (fun r0 : Int32 => .inr (some (.int r0), (wW Γ M0 c f))) (.inl (0, [some (.ref w), some (.int a1), some (.int a2), none, none], [], (wW Γ M0 c f))) (fW_logPart u f a1 a2) := by
  unfold fW_logPart
  refine nx_aload_n rfl dX6_logPart_0 rfl ?_
  refine nx_getf fl_6_11 ((nx_put_ne hc).trans hw) rfl dX6_logPart_1 rfl ?_
  refine nx_bipush (by decide +kernel) dX6_logPart_4 rfl ?_
  refine nx_iald nx_put_self dX6_logPart_6 rfl (fun x1 => ?_)
  refine nx_iconst dX6_logPart_7 rfl ?_
  refine nx_isub dX6_logPart_8 rfl ?_
  refine nx_iload_n rfl dX6_logPart_9 rfl ?_
  refine nx_isub dX6_logPart_10 rfl ?_
  refine nx_istore_n [some (.ref w), some (.int a1), some (.int a2), some (.int ((x1 - (iz 1)) - a1)), none] dX6_logPart_11 rfl (Nat.le_of_ble_eq_true rfl) rfl rfl ?_
  refine nx_iload_n rfl dX6_logPart_12 rfl ?_
  refine nx_seq (C1 := fun s2 : Int32 => .inl (19, [some (.ref w), some (.int a1), some (.int a2), some (.int s2), none], [], (wW Γ M0 c f))) ?_ (fun s2 => ?_)
  · refine nx_if_ge (t := 19) dX6_logPart_13 (by decide) rfl ?_ ?_
    · exact nx_leaf rfl
    · refine nx_iinc [some (.ref w), some (.int a1), some (.int a2), some (.int (((x1 - (iz 1)) - a1) + iz 60)), none] dX6_logPart_16 rfl rfl (Nat.le_of_ble_eq_true rfl) rfl rfl ?_
      exact nx_leaf rfl
  refine nx_iload_n rfl dX6_logPart_19 rfl ?_
  refine nx_bipush (by decide +kernel) dX6_logPart_20 rfl ?_
  refine nx_callSr [.int s2, .int (iz 60)] (fun r => .int (bz r)) (fun _ => (wW Γ M0 c f)) cw_6_33 wd_442 (fun r e => cL_within X.2.1  e) rfl rfl (Nat.le_of_ble_eq_true rfl) (Nat.le_of_ble_eq_true rfl) dX6_logPart_22 rfl (fun b3 => ?_)
  refine nx_ifz_ne (t := 31) dX6_logPart_25 (by decide) rfl ?_ ?_
  · refine nx_aload_n rfl dX6_logPart_31 rfl ?_
    refine nx_getf fl_6_11 ((nx_put_ne hc).trans hw) rfl dX6_logPart_32 rfl ?_
    refine nx_sipush (by decide +kernel) dX6_logPart_35 rfl ?_
    refine nx_iload_n rfl dX6_logPart_38 rfl ?_
    refine nx_iadd dX6_logPart_39 rfl ?_
    refine nx_iald nx_put_self dX6_logPart_40 rfl (fun x4 => ?_)
    refine nx_istore [some (.ref w), some (.int a1), some (.int a2), some (.int s2), some (.int x4)] dX6_logPart_41 rfl (Nat.le_of_ble_eq_true rfl) rfl rfl ?_
    refine nx_iload_n rfl dX6_logPart_43 rfl ?_
    refine nx_if_ne (t := 53) dX6_logPart_44 (by decide) rfl ?_ ?_
    · refine nx_iload_n rfl dX6_logPart_53 rfl ?_
      refine nx_iconst dX6_logPart_54 rfl ?_
      refine nx_icmp_ne (t := 70) dX6_logPart_55 (by decide) rfl ?_ ?_
      · refine nx_iload rfl dX6_logPart_70 rfl ?_
        refine nx_bipush (by decide +kernel) dX6_logPart_72 rfl ?_
        refine nx_ishr dX6_logPart_74 rfl ?_
        refine nx_iconst dX6_logPart_75 rfl ?_
        refine nx_isub dX6_logPart_76 rfl ?_
        exact nx_iret dX6_logPart_77 rfl rfl
      · refine nx_iload rfl dX6_logPart_58 rfl ?_
        refine nx_iconst dX6_logPart_60 rfl ?_
        refine nx_ishr dX6_logPart_61 rfl ?_
        refine nx_bipush (by decide +kernel) dX6_logPart_62 rfl ?_
        refine nx_iand dX6_logPart_64 rfl ?_
        refine nx_iconst dX6_logPart_65 rfl ?_
        refine nx_isub dX6_logPart_66 rfl ?_
        refine nx_goto (q := 77) dX6_logPart_67 (by decide) ?_
        exact nx_iret dX6_logPart_77 rfl rfl
    · refine nx_iload rfl dX6_logPart_47 rfl ?_
      refine nx_bipush (by decide +kernel) dX6_logPart_49 rfl ?_
      refine nx_iand dX6_logPart_51 rfl ?_
      exact nx_iret dX6_logPart_52 rfl rfl
  · refine nx_ldc wd_840 dX6_logPart_28 rfl ?_
    exact nx_iret dX6_logPart_30 rfl rfl
theorem cW_logPart (l : Launch) {Γ : nx_G} {M0 : nx_M} {w c : Nat} (hw : M0.1 w = some (.inr (6, [.ref c]))) (hc : w ≠ c) {u : Nat} {f : (Nat → Int32)} {a1 : Int32} {a2 : Int32} {r : Int32}  (h : fW_logPart u f a1 a2 = some r) : nx_Ct l Γ 2 yX6_logPart cX6_logPart 5 (some .int) [.ref w, .int a1, .int a2] (wW Γ M0 c f) (some (.int r), (wW Γ M0 c f)) :=
  nx_ct (out := fun r0 : Int32 => (some (.int r0), (wW Γ M0 c f))) [some (.ref w), some (.int a1), some (.int a2), none, none] pn_RX6 h (Nat.le_of_ble_eq_true rfl) rfl (fun X Z _ => jW_logPart hw hc u f a1 a2 X Z)
theorem dX6_liveSeats_0 : decode cX6_liveSeats 0 = .ok (.aload_n 0, 1) := by decide +kernel
theorem dX6_liveSeats_1 : decode cX6_liveSeats 1 = .ok (.iconst 1, 1) := by decide +kernel
theorem dX6_liveSeats_2 : decode cX6_liveSeats 2 = .ok (.invokevirtual 159, 3) := by decide +kernel
theorem dX6_liveSeats_5 : decode cX6_liveSeats 5 = .ok (.aload_n 0, 1) := by decide +kernel
theorem dX6_liveSeats_6 : decode cX6_liveSeats 6 = .ok (.iconst 2, 1) := by decide +kernel
theorem dX6_liveSeats_7 : decode cX6_liveSeats 7 = .ok (.invokevirtual 159, 3) := by decide +kernel
theorem dX6_liveSeats_10 : decode cX6_liveSeats 10 = .ok (.ior, 1) := by decide +kernel
theorem dX6_liveSeats_11 : decode cX6_liveSeats 11 = .ok (.ireturn, 1) := by decide +kernel
def fW_liveSeats (u : Nat) (f : (Nat → Int32)) : Option (Int32) :=
  (fW_seatsIn u f (iz 1)).bind fun x1 =>
  (fW_seatsIn u f (iz 2)).bind fun x2 =>
  some (x1 ||| x2)
set_option maxRecDepth 4000 in
theorem jW_liveSeats {Γ : nx_G} {M0 : nx_M} {w c : Nat} (hw : M0.1 w = some (.inr (6, [.ref c]))) (hc : w ≠ c) (u : Nat) (f : (Nat → Int32))   (X : nx_X) (Z : nx_Z) : nx_J Γ X (RX6, cX6_liveSeats, 1, (some .int), "liveSeats", 2) Z (fun r0 : Int32 => .inr (some (.int r0), (wW Γ M0 c f))) (.inl (0, [some (.ref w)], [], (wW Γ M0 c f))) (fW_liveSeats u f) := by
  unfold fW_liveSeats
  refine nx_aload_n rfl dX6_liveSeats_0 rfl ?_
  refine nx_iconst dX6_liveSeats_1 rfl ?_
  refine nx_callVr [.int (iz 1)] (fun r => .int r) (fun _ => (wW Γ M0 c f)) cw_6_159 cv_X6_seatsIn (fun r e => cW_seatsIn X.2.1 hw hc e) ((nx_put_ne hc).trans hw) rfl rfl (Nat.le_of_ble_eq_true rfl) (Nat.le_of_ble_eq_true rfl) dX6_liveSeats_2 rfl (fun x1 => ?_)
  refine nx_aload_n rfl dX6_liveSeats_5 rfl ?_
  refine nx_iconst dX6_liveSeats_6 rfl ?_
  refine nx_callVr [.int (iz 2)] (fun r => .int r) (fun _ => (wW Γ M0 c f)) cw_6_159 cv_X6_seatsIn (fun r e => cW_seatsIn X.2.1 hw hc e) ((nx_put_ne hc).trans hw) rfl rfl (Nat.le_of_ble_eq_true rfl) (Nat.le_of_ble_eq_true rfl) dX6_liveSeats_7 rfl (fun x2 => ?_)
  refine nx_ior dX6_liveSeats_10 rfl ?_
  exact nx_iret dX6_liveSeats_11 rfl rfl
theorem cW_liveSeats (l : Launch) {Γ : nx_G} {M0 : nx_M} {w c : Nat} (hw : M0.1 w = some (.inr (6, [.ref c]))) (hc : w ≠ c) {u : Nat} {f : (Nat → Int32)} {r : Int32}  (h : fW_liveSeats u f = some r) : nx_Ct l Γ 2 yX6_liveSeats cX6_liveSeats 1 (some .int) [.ref w] (wW Γ M0 c f) (some (.int r), (wW Γ M0 c f)) :=
  nx_ct (out := fun r0 : Int32 => (some (.int r0), (wW Γ M0 c f))) [some (.ref w)] pn_RX6 h (Nat.le_of_ble_eq_true rfl) rfl (fun X Z _ => jW_liveSeats hw hc u f X Z)
theorem dX6_doomedSeats_0 : decode cX6_doomedSeats 0 = .ok (.iconst 0, 1) := by decide +kernel
theorem dX6_doomedSeats_1 : decode cX6_doomedSeats 1 = .ok (.istore_n 1, 1) := by decide +kernel
theorem dX6_doomedSeats_2 : decode cX6_doomedSeats 2 = .ok (.iconst 0, 1) := by decide +kernel
theorem dX6_doomedSeats_3 : decode cX6_doomedSeats 3 = .ok (.istore_n 2, 1) := by decide +kernel
theorem dX6_doomedSeats_4 : decode cX6_doomedSeats 4 = .ok (.iload_n 2, 1) := by decide +kernel
theorem dX6_doomedSeats_5 : decode cX6_doomedSeats 5 = .ok (.bipush 8, 2) := by decide +kernel
theorem dX6_doomedSeats_7 : decode cX6_doomedSeats 7 = .ok (.if_icmp .ge 35, 3) := by decide +kernel
theorem dX6_doomedSeats_10 : decode cX6_doomedSeats 10 = .ok (.aload_n 0, 1) := by decide +kernel
theorem dX6_doomedSeats_11 : decode cX6_doomedSeats 11 = .ok (.iload_n 2, 1) := by decide +kernel
theorem dX6_doomedSeats_12 : decode cX6_doomedSeats 12 = .ok (.invokevirtual 62, 3) := by decide +kernel
theorem dX6_doomedSeats_15 : decode cX6_doomedSeats 15 = .ok (.ifCond .eq 21, 3) := by decide +kernel
theorem dX6_doomedSeats_18 : decode cX6_doomedSeats 18 = .ok (.aload_n 0, 1) := by decide +kernel
theorem dX6_doomedSeats_19 : decode cX6_doomedSeats 19 = .ok (.getfield 11, 3) := by decide +kernel
theorem dX6_doomedSeats_22 : decode cX6_doomedSeats 22 = .ok (.bipush 72, 2) := by decide +kernel
theorem dX6_doomedSeats_24 : decode cX6_doomedSeats 24 = .ok (.iload_n 2, 1) := by decide +kernel
theorem dX6_doomedSeats_25 : decode cX6_doomedSeats 25 = .ok (.iadd, 1) := by decide +kernel
theorem dX6_doomedSeats_26 : decode cX6_doomedSeats 26 = .ok (.iaload, 1) := by decide +kernel
theorem dX6_doomedSeats_27 : decode cX6_doomedSeats 27 = .ok (.ifCond .eq 9, 3) := by decide +kernel
theorem dX6_doomedSeats_30 : decode cX6_doomedSeats 30 = .ok (.iload_n 1, 1) := by decide +kernel
theorem dX6_doomedSeats_31 : decode cX6_doomedSeats 31 = .ok (.iconst 1, 1) := by decide +kernel
theorem dX6_doomedSeats_32 : decode cX6_doomedSeats 32 = .ok (.iload_n 2, 1) := by decide +kernel
theorem dX6_doomedSeats_33 : decode cX6_doomedSeats 33 = .ok (.ishl, 1) := by decide +kernel
theorem dX6_doomedSeats_34 : decode cX6_doomedSeats 34 = .ok (.ior, 1) := by decide +kernel
theorem dX6_doomedSeats_35 : decode cX6_doomedSeats 35 = .ok (.istore_n 1, 1) := by decide +kernel
theorem dX6_doomedSeats_36 : decode cX6_doomedSeats 36 = .ok (.iinc 2 1, 3) := by decide +kernel
theorem dX6_doomedSeats_39 : decode cX6_doomedSeats 39 = .ok (.goto (-35), 3) := by decide +kernel
theorem dX6_doomedSeats_42 : decode cX6_doomedSeats 42 = .ok (.iload_n 1, 1) := by decide +kernel
theorem dX6_doomedSeats_43 : decode cX6_doomedSeats 43 = .ok (.ireturn, 1) := by decide +kernel
def fW_doomedSeats_4 (u : Nat) (f : (Nat → Int32)) (s1 : Int32 × Int32) : Option ((Int32 × Int32) ⊕ (Int32)) :=
  if (iz 8) ≤ s1.2 then
    some (.inr s1.1)
  else
    (fW_isLive u f s1.2).bind fun b2 =>
    (if b2 = true then
       (nx_rd 514 f ((iz 72) + s1.2)).bind fun x3 =>
       if x3 = iz 0 then
         some s1.1
       else
         some (s1.1 ||| ((iz 1) <<< (s1.2 &&& 31)))
     else
       some s1.1 : Option (Int32)).bind fun s4 =>
    some (.inl (s4, (s1.2 + iz 1)))
def fW_doomedSeats (u : Nat) (f : (Nat → Int32)) : Option (Int32) :=
  (nx_iter u (fW_doomedSeats_4 u f) ((iz 0), (iz 0))).bind fun e5 =>
  some e5
set_option maxRecDepth 4000 in
theorem jW_doomedSeats_4 {Γ : nx_G} {M0 : nx_M} {w c : Nat} (hw : M0.1 w = some (.inr (6, [.ref c]))) (hc : w ≠ c) (u : Nat) (f : (Nat → Int32))   (X : nx_X) (Z : nx_Z) (s1 : Int32 × Int32) : nx_J Γ X (RX6, cX6_doomedSeats, 3, (some .int), "doomedSeats", 2) Z (Sum.elim (fun s1 : Int32 × Int32 => .inl (4, [some (.ref w), some (.int s1.1), some (.int s1.2)], [], (wW Γ M0 c f))) (fun e5 : Int32 => .inl (42, [some (.ref w), some (.int e5), none], [], (wW Γ M0 c f)))) (.inl (4, [some (.ref w), some (.int s1.1), some (.int s1.2)], [], (wW Γ M0 c f))) (fW_doomedSeats_4 u f s1) := by
  unfold fW_doomedSeats_4
  refine nx_iload_n rfl dX6_doomedSeats_4 rfl ?_
  refine nx_bipush (by decide +kernel) dX6_doomedSeats_5 rfl ?_
  refine nx_icmp_ge (t := 42) dX6_doomedSeats_7 (by decide) rfl ?_ ?_
  · refine nx_weak (ls' := [some (.ref w), some (.int s1.1), none]) (nx_wk_s (nx_wk_s (nx_wk_n nx_wk_e))) ?_
    obtain ⟨_, _⟩ := s1
    exact nx_leaf rfl
  · refine nx_aload_n rfl dX6_doomedSeats_10 rfl ?_
    refine nx_iload_n rfl dX6_doomedSeats_11 rfl ?_
    refine nx_callVr [.int s1.2] (fun r => .int (bz r)) (fun _ => (wW Γ M0 c f)) cw_6_62 cv_X6_isLive (fun r e => cW_isLive X.2.1 hw hc e) ((nx_put_ne hc).trans hw) rfl rfl (Nat.le_of_ble_eq_true rfl) (Nat.le_of_ble_eq_true rfl) dX6_doomedSeats_12 rfl (fun b2 => ?_)
    refine nx_seq (C1 := fun s4 : Int32 => .inl (36, [some (.ref w), some (.int s4), some (.int s1.2)], [], (wW Γ M0 c f))) ?_ (fun s4 => ?_)
    · refine nx_ifz_eq (t := 36) dX6_doomedSeats_15 (by decide) rfl ?_ ?_
      · obtain ⟨_, _⟩ := s1
        exact nx_leaf rfl
      · refine nx_aload_n rfl dX6_doomedSeats_18 rfl ?_
        refine nx_getf fl_6_11 ((nx_put_ne hc).trans hw) rfl dX6_doomedSeats_19 rfl ?_
        refine nx_bipush (by decide +kernel) dX6_doomedSeats_22 rfl ?_
        refine nx_iload_n rfl dX6_doomedSeats_24 rfl ?_
        refine nx_iadd dX6_doomedSeats_25 rfl ?_
        refine nx_iald nx_put_self dX6_doomedSeats_26 rfl (fun x3 => ?_)
        refine nx_if_eq (t := 36) dX6_doomedSeats_27 (by decide) rfl ?_ ?_
        · obtain ⟨_, _⟩ := s1
          exact nx_leaf rfl
        · refine nx_iload_n rfl dX6_doomedSeats_30 rfl ?_
          refine nx_iconst dX6_doomedSeats_31 rfl ?_
          refine nx_iload_n rfl dX6_doomedSeats_32 rfl ?_
          refine nx_ishl dX6_doomedSeats_33 rfl ?_
          refine nx_ior dX6_doomedSeats_34 rfl ?_
          refine nx_istore_n [some (.ref w), some (.int (s1.1 ||| ((iz 1) <<< (s1.2 &&& 31)))), some (.int s1.2)] dX6_doomedSeats_35 rfl (Nat.le_of_ble_eq_true rfl) rfl rfl ?_
          obtain ⟨_, _⟩ := s1
          exact nx_leaf rfl
    refine nx_iinc [some (.ref w), some (.int s4), some (.int (s1.2 + iz 1))] dX6_doomedSeats_36 rfl rfl (Nat.le_of_ble_eq_true rfl) rfl rfl ?_
    refine nx_goto (q := 4) dX6_doomedSeats_39 (by decide) ?_
    obtain ⟨_, _⟩ := s1
    exact nx_leaf rfl
set_option maxRecDepth 4000 in
theorem jW_doomedSeats {Γ : nx_G} {M0 : nx_M} {w c : Nat} (hw : M0.1 w = some (.inr (6, [.ref c]))) (hc : w ≠ c) (u : Nat) (f : (Nat → Int32))   (X : nx_X) (Z : nx_Z) : nx_J Γ X (RX6, cX6_doomedSeats, 3, (some .int), "doomedSeats", 2) Z (fun r0 : Int32 => .inr (some (.int r0), (wW Γ M0 c f))) (.inl (0, [some (.ref w), none, none], [], (wW Γ M0 c f))) (fW_doomedSeats u f) := by
  unfold fW_doomedSeats
  refine nx_iconst dX6_doomedSeats_0 rfl ?_
  refine nx_istore_n [some (.ref w), some (.int (iz 0)), none] dX6_doomedSeats_1 rfl (Nat.le_of_ble_eq_true rfl) rfl rfl ?_
  refine nx_iconst dX6_doomedSeats_2 rfl ?_
  refine nx_istore_n [some (.ref w), some (.int (iz 0)), some (.int (iz 0))] dX6_doomedSeats_3 rfl (Nat.le_of_ble_eq_true rfl) rfl rfl ?_
  refine nx_seq (C1 := fun e5 : Int32 => .inl (42, [some (.ref w), some (.int e5), none], [], (wW Γ M0 c f))) (nx_loop (C1 := fun s1 : Int32 × Int32 => .inl (4, [some (.ref w), some (.int s1.1), some (.int s1.2)], [], (wW Γ M0 c f))) (fun s1 => jW_doomedSeats_4 hw hc u f X Z s1) ((iz 0), (iz 0))) (fun e5 => ?_)
  refine nx_iload_n rfl dX6_doomedSeats_42 rfl ?_
  exact nx_iret dX6_doomedSeats_43 rfl rfl
theorem cW_doomedSeats (l : Launch) {Γ : nx_G} {M0 : nx_M} {w c : Nat} (hw : M0.1 w = some (.inr (6, [.ref c]))) (hc : w ≠ c) {u : Nat} {f : (Nat → Int32)} {r : Int32}  (h : fW_doomedSeats u f = some r) : nx_Ct l Γ 2 yX6_doomedSeats cX6_doomedSeats 3 (some .int) [.ref w] (wW Γ M0 c f) (some (.int r), (wW Γ M0 c f)) :=
  nx_ct (out := fun r0 : Int32 => (some (.int r0), (wW Γ M0 c f))) [some (.ref w), none, none] pn_RX6 h (Nat.le_of_ble_eq_true rfl) rfl (fun X Z _ => jW_doomedSeats hw hc u f X Z)
theorem dX6_unsureKeys_0 : decode cX6_unsureKeys 0 = .ok (.iconst 0, 1) := by decide +kernel
theorem dX6_unsureKeys_1 : decode cX6_unsureKeys 1 = .ok (.istore_n 1, 1) := by decide +kernel
theorem dX6_unsureKeys_2 : decode cX6_unsureKeys 2 = .ok (.iconst 0, 1) := by decide +kernel
theorem dX6_unsureKeys_3 : decode cX6_unsureKeys 3 = .ok (.istore_n 2, 1) := by decide +kernel
theorem dX6_unsureKeys_4 : decode cX6_unsureKeys 4 = .ok (.iload_n 2, 1) := by decide +kernel
theorem dX6_unsureKeys_5 : decode cX6_unsureKeys 5 = .ok (.bipush 6, 2) := by decide +kernel
theorem dX6_unsureKeys_7 : decode cX6_unsureKeys 7 = .ok (.if_icmp .ge 39, 3) := by decide +kernel
theorem dX6_unsureKeys_10 : decode cX6_unsureKeys 10 = .ok (.iconst 0, 1) := by decide +kernel
theorem dX6_unsureKeys_11 : decode cX6_unsureKeys 11 = .ok (.istore_n 3, 1) := by decide +kernel
theorem dX6_unsureKeys_12 : decode cX6_unsureKeys 12 = .ok (.iload_n 3, 1) := by decide +kernel
theorem dX6_unsureKeys_13 : decode cX6_unsureKeys 13 = .ok (.bipush 8, 2) := by decide +kernel
theorem dX6_unsureKeys_15 : decode cX6_unsureKeys 15 = .ok (.if_icmp .ge 25, 3) := by decide +kernel
theorem dX6_unsureKeys_18 : decode cX6_unsureKeys 18 = .ok (.aload_n 0, 1) := by decide +kernel
theorem dX6_unsureKeys_19 : decode cX6_unsureKeys 19 = .ok (.iload_n 2, 1) := by decide +kernel
theorem dX6_unsureKeys_20 : decode cX6_unsureKeys 20 = .ok (.iload_n 3, 1) := by decide +kernel
theorem dX6_unsureKeys_21 : decode cX6_unsureKeys 21 = .ok (.invokevirtual 78, 3) := by decide +kernel
theorem dX6_unsureKeys_24 : decode cX6_unsureKeys 24 = .ok (.iconst (-1), 1) := by decide +kernel
theorem dX6_unsureKeys_25 : decode cX6_unsureKeys 25 = .ok (.if_icmp .eq 9, 3) := by decide +kernel
theorem dX6_unsureKeys_28 : decode cX6_unsureKeys 28 = .ok (.iload_n 1, 1) := by decide +kernel
theorem dX6_unsureKeys_29 : decode cX6_unsureKeys 29 = .ok (.iconst 1, 1) := by decide +kernel
theorem dX6_unsureKeys_30 : decode cX6_unsureKeys 30 = .ok (.iload_n 2, 1) := by decide +kernel
theorem dX6_unsureKeys_31 : decode cX6_unsureKeys 31 = .ok (.ishl, 1) := by decide +kernel
theorem dX6_unsureKeys_32 : decode cX6_unsureKeys 32 = .ok (.ior, 1) := by decide +kernel
theorem dX6_unsureKeys_33 : decode cX6_unsureKeys 33 = .ok (.istore_n 1, 1) := by decide +kernel
theorem dX6_unsureKeys_34 : decode cX6_unsureKeys 34 = .ok (.iinc 3 1, 3) := by decide +kernel
theorem dX6_unsureKeys_37 : decode cX6_unsureKeys 37 = .ok (.goto (-25), 3) := by decide +kernel
theorem dX6_unsureKeys_40 : decode cX6_unsureKeys 40 = .ok (.iinc 2 1, 3) := by decide +kernel
theorem dX6_unsureKeys_43 : decode cX6_unsureKeys 43 = .ok (.goto (-39), 3) := by decide +kernel
theorem dX6_unsureKeys_46 : decode cX6_unsureKeys 46 = .ok (.iload_n 1, 1) := by decide +kernel
theorem dX6_unsureKeys_47 : decode cX6_unsureKeys 47 = .ok (.ireturn, 1) := by decide +kernel
def fW_unsureKeys_12 (u : Nat) (f : (Nat → Int32)) (s1 : Int32 × Int32) (s2 : Int32 × Int32) : Option ((Int32 × Int32) ⊕ (Int32)) :=
  if (iz 8) ≤ s2.2 then
    some (.inr s2.1)
  else
    (fW_ownSlot u f s1.2 s2.2).bind fun x3 =>
    (if x3 = (iz (-1)) then
       some s2.1
     else
       some (s2.1 ||| ((iz 1) <<< (s1.2 &&& 31))) : Option (Int32)).bind fun s4 =>
    some (.inl (s4, (s2.2 + iz 1)))
def fW_unsureKeys_4 (u : Nat) (f : (Nat → Int32)) (s1 : Int32 × Int32) : Option ((Int32 × Int32) ⊕ (Int32)) :=
  if (iz 6) ≤ s1.2 then
    some (.inr s1.1)
  else
    (nx_iter u (fW_unsureKeys_12 u f s1) (s1.1, (iz 0))).bind fun e5 =>
    some (.inl (e5, (s1.2 + iz 1)))
def fW_unsureKeys (u : Nat) (f : (Nat → Int32)) : Option (Int32) :=
  (nx_iter u (fW_unsureKeys_4 u f) ((iz 0), (iz 0))).bind fun e6 =>
  some e6
set_option maxRecDepth 4000 in
theorem jW_unsureKeys_12 {Γ : nx_G} {M0 : nx_M} {w c : Nat} (hw : M0.1 w = some (.inr (6, [.ref c]))) (hc : w ≠ c) (u : Nat) (f : (Nat → Int32)) (s1 : Int32 × Int32)   (X : nx_X) (Z : nx_Z) (s2 : Int32 × Int32) : nx_J Γ X (RX6, cX6_unsureKeys, 4, (some .int), "unsureKeys", 2) Z (Sum.elim (fun s2 : Int32 × Int32 => .inl (12, [some (.ref w), some (.int s2.1), some (.int s1.2), some (.int s2.2)], [], (wW Γ M0 c f))) (fun e5 : Int32 => .inl (40, [some (.ref w), some (.int e5), some (.int s1.2), none], [], (wW Γ M0 c f)))) (.inl (12, [some (.ref w), some (.int s2.1), some (.int s1.2), some (.int s2.2)], [], (wW Γ M0 c f))) (fW_unsureKeys_12 u f s1 s2) := by
  unfold fW_unsureKeys_12
  refine nx_iload_n rfl dX6_unsureKeys_12 rfl ?_
  refine nx_bipush (by decide +kernel) dX6_unsureKeys_13 rfl ?_
  refine nx_icmp_ge (t := 40) dX6_unsureKeys_15 (by decide) rfl ?_ ?_
  · refine nx_weak (ls' := [some (.ref w), some (.int s2.1), some (.int s1.2), none]) (nx_wk_s (nx_wk_s (nx_wk_s (nx_wk_n nx_wk_e)))) ?_
    obtain ⟨_, _⟩ := s1
    obtain ⟨_, _⟩ := s2
    exact nx_leaf rfl
  · refine nx_aload_n rfl dX6_unsureKeys_18 rfl ?_
    refine nx_iload_n rfl dX6_unsureKeys_19 rfl ?_
    refine nx_iload_n rfl dX6_unsureKeys_20 rfl ?_
    refine nx_callVr [.int s1.2, .int s2.2] (fun r => .int r) (fun _ => (wW Γ M0 c f)) cw_6_78 cv_X6_ownSlot (fun r e => cW_ownSlot X.2.1 hw hc e) ((nx_put_ne hc).trans hw) rfl rfl (Nat.le_of_ble_eq_true rfl) (Nat.le_of_ble_eq_true rfl) dX6_unsureKeys_21 rfl (fun x3 => ?_)
    refine nx_iconst dX6_unsureKeys_24 rfl ?_
    refine nx_seq (C1 := fun s4 : Int32 => .inl (34, [some (.ref w), some (.int s4), some (.int s1.2), some (.int s2.2)], [], (wW Γ M0 c f))) ?_ (fun s4 => ?_)
    · refine nx_icmp_eq (t := 34) dX6_unsureKeys_25 (by decide) rfl ?_ ?_
      · obtain ⟨_, _⟩ := s1
        obtain ⟨_, _⟩ := s2
        exact nx_leaf rfl
      · refine nx_iload_n rfl dX6_unsureKeys_28 rfl ?_
        refine nx_iconst dX6_unsureKeys_29 rfl ?_
        refine nx_iload_n rfl dX6_unsureKeys_30 rfl ?_
        refine nx_ishl dX6_unsureKeys_31 rfl ?_
        refine nx_ior dX6_unsureKeys_32 rfl ?_
        refine nx_istore_n [some (.ref w), some (.int (s2.1 ||| ((iz 1) <<< (s1.2 &&& 31)))), some (.int s1.2), some (.int s2.2)] dX6_unsureKeys_33 rfl (Nat.le_of_ble_eq_true rfl) rfl rfl ?_
        obtain ⟨_, _⟩ := s1
        obtain ⟨_, _⟩ := s2
        exact nx_leaf rfl
    refine nx_iinc [some (.ref w), some (.int s4), some (.int s1.2), some (.int (s2.2 + iz 1))] dX6_unsureKeys_34 rfl rfl (Nat.le_of_ble_eq_true rfl) rfl rfl ?_
    refine nx_goto (q := 12) dX6_unsureKeys_37 (by decide) ?_
    obtain ⟨_, _⟩ := s1
    obtain ⟨_, _⟩ := s2
    exact nx_leaf rfl
set_option maxRecDepth 4000 in
theorem jW_unsureKeys_4 {Γ : nx_G} {M0 : nx_M} {w c : Nat} (hw : M0.1 w = some (.inr (6, [.ref c]))) (hc : w ≠ c) (u : Nat) (f : (Nat → Int32))   (X : nx_X) (Z : nx_Z) (s1 : Int32 × Int32) : nx_J Γ X (RX6, cX6_unsureKeys, 4, (some .int), "unsureKeys", 2) Z (Sum.elim (fun s1 : Int32 × Int32 => .inl (4, [some (.ref w), some (.int s1.1), some (.int s1.2), none], [], (wW Γ M0 c f))) (fun e6 : Int32 => .inl (46, [some (.ref w), some (.int e6), none, none], [], (wW Γ M0 c f)))) (.inl (4, [some (.ref w), some (.int s1.1), some (.int s1.2), none], [], (wW Γ M0 c f))) (fW_unsureKeys_4 u f s1) := by
  unfold fW_unsureKeys_4
  refine nx_iload_n rfl dX6_unsureKeys_4 rfl ?_
  refine nx_bipush (by decide +kernel) dX6_unsureKeys_5 rfl ?_
  refine nx_icmp_ge (t := 46) dX6_unsureKeys_7 (by decide) rfl ?_ ?_
  · refine nx_weak (ls' := [some (.ref w), some (.int s1.1), none, none]) (nx_wk_s (nx_wk_s (nx_wk_n (nx_wk_n nx_wk_e)))) ?_
    obtain ⟨_, _⟩ := s1
    exact nx_leaf rfl
  · refine nx_iconst dX6_unsureKeys_10 rfl ?_
    refine nx_istore_n [some (.ref w), some (.int s1.1), some (.int s1.2), some (.int (iz 0))] dX6_unsureKeys_11 rfl (Nat.le_of_ble_eq_true rfl) rfl rfl ?_
    refine nx_seq (C1 := fun e5 : Int32 => .inl (40, [some (.ref w), some (.int e5), some (.int s1.2), none], [], (wW Γ M0 c f))) (nx_loop (C1 := fun s2 : Int32 × Int32 => .inl (12, [some (.ref w), some (.int s2.1), some (.int s1.2), some (.int s2.2)], [], (wW Γ M0 c f))) (fun s2 => jW_unsureKeys_12 hw hc u f s1 X Z s2) (s1.1, (iz 0))) (fun e5 => ?_)
    refine nx_iinc [some (.ref w), some (.int e5), some (.int (s1.2 + iz 1)), none] dX6_unsureKeys_40 rfl rfl (Nat.le_of_ble_eq_true rfl) rfl rfl ?_
    refine nx_goto (q := 4) dX6_unsureKeys_43 (by decide) ?_
    obtain ⟨_, _⟩ := s1
    exact nx_leaf rfl
set_option maxRecDepth 4000 in
theorem jW_unsureKeys {Γ : nx_G} {M0 : nx_M} {w c : Nat} (hw : M0.1 w = some (.inr (6, [.ref c]))) (hc : w ≠ c) (u : Nat) (f : (Nat → Int32))   (X : nx_X) (Z : nx_Z) : nx_J Γ X (RX6, cX6_unsureKeys, 4, (some .int), "unsureKeys", 2) Z (fun r0 : Int32 => .inr (some (.int r0), (wW Γ M0 c f))) (.inl (0, [some (.ref w), none, none, none], [], (wW Γ M0 c f))) (fW_unsureKeys u f) := by
  unfold fW_unsureKeys
  refine nx_iconst dX6_unsureKeys_0 rfl ?_
  refine nx_istore_n [some (.ref w), some (.int (iz 0)), none, none] dX6_unsureKeys_1 rfl (Nat.le_of_ble_eq_true rfl) rfl rfl ?_
  refine nx_iconst dX6_unsureKeys_2 rfl ?_
  refine nx_istore_n [some (.ref w), some (.int (iz 0)), some (.int (iz 0)), none] dX6_unsureKeys_3 rfl (Nat.le_of_ble_eq_true rfl) rfl rfl ?_
  refine nx_seq (C1 := fun e6 : Int32 => .inl (46, [some (.ref w), some (.int e6), none, none], [], (wW Γ M0 c f))) (nx_loop (C1 := fun s1 : Int32 × Int32 => .inl (4, [some (.ref w), some (.int s1.1), some (.int s1.2), none], [], (wW Γ M0 c f))) (fun s1 => jW_unsureKeys_4 hw hc u f X Z s1) ((iz 0), (iz 0))) (fun e6 => ?_)
  refine nx_iload_n rfl dX6_unsureKeys_46 rfl ?_
  exact nx_iret dX6_unsureKeys_47 rfl rfl
theorem cW_unsureKeys (l : Launch) {Γ : nx_G} {M0 : nx_M} {w c : Nat} (hw : M0.1 w = some (.inr (6, [.ref c]))) (hc : w ≠ c) {u : Nat} {f : (Nat → Int32)} {r : Int32}  (h : fW_unsureKeys u f = some r) : nx_Ct l Γ 2 yX6_unsureKeys cX6_unsureKeys 4 (some .int) [.ref w] (wW Γ M0 c f) (some (.int r), (wW Γ M0 c f)) :=
  nx_ct (out := fun r0 : Int32 => (some (.int r0), (wW Γ M0 c f))) [some (.ref w), none, none, none] pn_RX6 h (Nat.le_of_ble_eq_true rfl) rfl (fun X Z _ => jW_unsureKeys hw hc u f X Z)
theorem dX6_fullestKey_0 : decode cX6_fullestKey 0 = .ok (.iconst 0, 1) := by decide +kernel
theorem dX6_fullestKey_1 : decode cX6_fullestKey 1 = .ok (.istore_n 1, 1) := by decide +kernel
theorem dX6_fullestKey_2 : decode cX6_fullestKey 2 = .ok (.iconst 1, 1) := by decide +kernel
theorem dX6_fullestKey_3 : decode cX6_fullestKey 3 = .ok (.istore_n 2, 1) := by decide +kernel
theorem dX6_fullestKey_4 : decode cX6_fullestKey 4 = .ok (.iload_n 2, 1) := by decide +kernel
theorem dX6_fullestKey_5 : decode cX6_fullestKey 5 = .ok (.bipush 6, 2) := by decide +kernel
theorem dX6_fullestKey_7 : decode cX6_fullestKey 7 = .ok (.if_icmp .ge 34, 3) := by decide +kernel
theorem dX6_fullestKey_10 : decode cX6_fullestKey 10 = .ok (.aload_n 0, 1) := by decide +kernel
theorem dX6_fullestKey_11 : decode cX6_fullestKey 11 = .ok (.getfield 11, 3) := by decide +kernel
theorem dX6_fullestKey_14 : decode cX6_fullestKey 14 = .ok (.sipush 232, 3) := by decide +kernel
theorem dX6_fullestKey_17 : decode cX6_fullestKey 17 = .ok (.iload_n 2, 1) := by decide +kernel
theorem dX6_fullestKey_18 : decode cX6_fullestKey 18 = .ok (.iadd, 1) := by decide +kernel
theorem dX6_fullestKey_19 : decode cX6_fullestKey 19 = .ok (.iaload, 1) := by decide +kernel
theorem dX6_fullestKey_20 : decode cX6_fullestKey 20 = .ok (.aload_n 0, 1) := by decide +kernel
theorem dX6_fullestKey_21 : decode cX6_fullestKey 21 = .ok (.getfield 11, 3) := by decide +kernel
theorem dX6_fullestKey_24 : decode cX6_fullestKey 24 = .ok (.sipush 232, 3) := by decide +kernel
theorem dX6_fullestKey_27 : decode cX6_fullestKey 27 = .ok (.iload_n 1, 1) := by decide +kernel
theorem dX6_fullestKey_28 : decode cX6_fullestKey 28 = .ok (.iadd, 1) := by decide +kernel
theorem dX6_fullestKey_29 : decode cX6_fullestKey 29 = .ok (.iaload, 1) := by decide +kernel
theorem dX6_fullestKey_30 : decode cX6_fullestKey 30 = .ok (.if_icmp .le 5, 3) := by decide +kernel
theorem dX6_fullestKey_33 : decode cX6_fullestKey 33 = .ok (.iload_n 2, 1) := by decide +kernel
theorem dX6_fullestKey_34 : decode cX6_fullestKey 34 = .ok (.istore_n 1, 1) := by decide +kernel
theorem dX6_fullestKey_35 : decode cX6_fullestKey 35 = .ok (.iinc 2 1, 3) := by decide +kernel
theorem dX6_fullestKey_38 : decode cX6_fullestKey 38 = .ok (.goto (-34), 3) := by decide +kernel
theorem dX6_fullestKey_41 : decode cX6_fullestKey 41 = .ok (.iload_n 1, 1) := by decide +kernel
theorem dX6_fullestKey_42 : decode cX6_fullestKey 42 = .ok (.ireturn, 1) := by decide +kernel
def fW_fullestKey_4 (f : (Nat → Int32)) (s1 : Int32 × Int32) : Option ((Int32 × Int32) ⊕ (Int32)) :=
  if (iz 6) ≤ s1.2 then
    some (.inr s1.1)
  else
    (nx_rd 514 f ((iz 232) + s1.2)).bind fun x2 =>
    (nx_rd 514 f ((iz 232) + s1.1)).bind fun x3 =>
    (if x2 ≤ x3 then
       some s1.1
     else
       some s1.2 : Option (Int32)).bind fun s4 =>
    some (.inl (s4, (s1.2 + iz 1)))
def fW_fullestKey (u : Nat) (f : (Nat → Int32)) : Option (Int32) :=
  (nx_iter u (fW_fullestKey_4 f) ((iz 0), (iz 1))).bind fun e5 =>
  some e5
set_option maxRecDepth 4000 in
theorem jW_fullestKey_4 {Γ : nx_G} {M0 : nx_M} {w c : Nat} (hw : M0.1 w = some (.inr (6, [.ref c]))) (hc : w ≠ c) (f : (Nat → Int32))   (X : nx_X) (Z : nx_Z) (s1 : Int32 × Int32) : nx_J Γ X (RX6, cX6_fullestKey, 3, (some .int), "fullestKey", 1) Z (Sum.elim (fun s1 : Int32 × Int32 => .inl (4, [some (.ref w), some (.int s1.1), some (.int s1.2)], [], (wW Γ M0 c f))) (fun e5 : Int32 => .inl (41, [some (.ref w), some (.int e5), none], [], (wW Γ M0 c f)))) (.inl (4, [some (.ref w), some (.int s1.1), some (.int s1.2)], [], (wW Γ M0 c f))) (fW_fullestKey_4 f s1) := by
  unfold fW_fullestKey_4
  refine nx_iload_n rfl dX6_fullestKey_4 rfl ?_
  refine nx_bipush (by decide +kernel) dX6_fullestKey_5 rfl ?_
  refine nx_icmp_ge (t := 41) dX6_fullestKey_7 (by decide) rfl ?_ ?_
  · refine nx_weak (ls' := [some (.ref w), some (.int s1.1), none]) (nx_wk_s (nx_wk_s (nx_wk_n nx_wk_e))) ?_
    obtain ⟨_, _⟩ := s1
    exact nx_leaf rfl
  · refine nx_aload_n rfl dX6_fullestKey_10 rfl ?_
    refine nx_getf fl_6_11 ((nx_put_ne hc).trans hw) rfl dX6_fullestKey_11 rfl ?_
    refine nx_sipush (by decide +kernel) dX6_fullestKey_14 rfl ?_
    refine nx_iload_n rfl dX6_fullestKey_17 rfl ?_
    refine nx_iadd dX6_fullestKey_18 rfl ?_
    refine nx_iald nx_put_self dX6_fullestKey_19 rfl (fun x2 => ?_)
    refine nx_aload_n rfl dX6_fullestKey_20 rfl ?_
    refine nx_getf fl_6_11 ((nx_put_ne hc).trans hw) rfl dX6_fullestKey_21 rfl ?_
    refine nx_sipush (by decide +kernel) dX6_fullestKey_24 rfl ?_
    refine nx_iload_n rfl dX6_fullestKey_27 rfl ?_
    refine nx_iadd dX6_fullestKey_28 rfl ?_
    refine nx_iald nx_put_self dX6_fullestKey_29 rfl (fun x3 => ?_)
    refine nx_seq (C1 := fun s4 : Int32 => .inl (35, [some (.ref w), some (.int s4), some (.int s1.2)], [], (wW Γ M0 c f))) ?_ (fun s4 => ?_)
    · refine nx_icmp_le (t := 35) dX6_fullestKey_30 (by decide) rfl ?_ ?_
      · obtain ⟨_, _⟩ := s1
        exact nx_leaf rfl
      · refine nx_iload_n rfl dX6_fullestKey_33 rfl ?_
        refine nx_istore_n [some (.ref w), some (.int s1.2), some (.int s1.2)] dX6_fullestKey_34 rfl (Nat.le_of_ble_eq_true rfl) rfl rfl ?_
        obtain ⟨_, _⟩ := s1
        exact nx_leaf rfl
    refine nx_iinc [some (.ref w), some (.int s4), some (.int (s1.2 + iz 1))] dX6_fullestKey_35 rfl rfl (Nat.le_of_ble_eq_true rfl) rfl rfl ?_
    refine nx_goto (q := 4) dX6_fullestKey_38 (by decide) ?_
    obtain ⟨_, _⟩ := s1
    exact nx_leaf rfl
set_option maxRecDepth 4000 in
theorem jW_fullestKey {Γ : nx_G} {M0 : nx_M} {w c : Nat} (hw : M0.1 w = some (.inr (6, [.ref c]))) (hc : w ≠ c) (u : Nat) (f : (Nat → Int32))   (X : nx_X) (Z : nx_Z) : nx_J Γ X (RX6, cX6_fullestKey, 3, (some .int), "fullestKey", 1) Z (fun r0 : Int32 => .inr (some (.int r0), (wW Γ M0 c f))) (.inl (0, [some (.ref w), none, none], [], (wW Γ M0 c f))) (fW_fullestKey u f) := by
  unfold fW_fullestKey
  refine nx_iconst dX6_fullestKey_0 rfl ?_
  refine nx_istore_n [some (.ref w), some (.int (iz 0)), none] dX6_fullestKey_1 rfl (Nat.le_of_ble_eq_true rfl) rfl rfl ?_
  refine nx_iconst dX6_fullestKey_2 rfl ?_
  refine nx_istore_n [some (.ref w), some (.int (iz 0)), some (.int (iz 1))] dX6_fullestKey_3 rfl (Nat.le_of_ble_eq_true rfl) rfl rfl ?_
  refine nx_seq (C1 := fun e5 : Int32 => .inl (41, [some (.ref w), some (.int e5), none], [], (wW Γ M0 c f))) (nx_loop (C1 := fun s1 : Int32 × Int32 => .inl (4, [some (.ref w), some (.int s1.1), some (.int s1.2)], [], (wW Γ M0 c f))) (fun s1 => jW_fullestKey_4 hw hc f X Z s1) ((iz 0), (iz 1))) (fun e5 => ?_)
  refine nx_iload_n rfl dX6_fullestKey_41 rfl ?_
  exact nx_iret dX6_fullestKey_42 rfl rfl
theorem cW_fullestKey (l : Launch) {Γ : nx_G} {M0 : nx_M} {w c : Nat} (hw : M0.1 w = some (.inr (6, [.ref c]))) (hc : w ≠ c) {u : Nat} {f : (Nat → Int32)} {r : Int32}  (h : fW_fullestKey u f = some r) : nx_Ct l Γ 1 yX6_fullestKey cX6_fullestKey 3 (some .int) [.ref w] (wW Γ M0 c f) (some (.int r), (wW Γ M0 c f)) :=
  nx_ct (out := fun r0 : Int32 => (some (.int r0), (wW Γ M0 c f))) [some (.ref w), none, none] pn_RX6 h (Nat.le_of_ble_eq_true rfl) rfl (fun X Z _ => jW_fullestKey hw hc u f X Z)
theorem dX6_fallingWith_0 : decode cX6_fallingWith 0 = .ok (.iconst 1, 1) := by decide +kernel
theorem dX6_fallingWith_1 : decode cX6_fallingWith 1 = .ok (.iload_n 1, 1) := by decide +kernel
theorem dX6_fallingWith_2 : decode cX6_fallingWith 2 = .ok (.ishl, 1) := by decide +kernel
theorem dX6_fallingWith_3 : decode cX6_fallingWith 3 = .ok (.istore_n 2, 1) := by decide +kernel
theorem dX6_fallingWith_4 : decode cX6_fallingWith 4 = .ok (.iconst 0, 1) := by decide +kernel
theorem dX6_fallingWith_5 : decode cX6_fallingWith 5 = .ok (.istore_n 3, 1) := by decide +kernel
theorem dX6_fallingWith_6 : decode cX6_fallingWith 6 = .ok (.iload_n 3, 1) := by decide +kernel
theorem dX6_fallingWith_7 : decode cX6_fallingWith 7 = .ok (.bipush 8, 2) := by decide +kernel
theorem dX6_fallingWith_9 : decode cX6_fallingWith 9 = .ok (.if_icmp .ge 47, 3) := by decide +kernel
theorem dX6_fallingWith_12 : decode cX6_fallingWith 12 = .ok (.iconst 0, 1) := by decide +kernel
theorem dX6_fallingWith_13 : decode cX6_fallingWith 13 = .ok (.istore 4, 2) := by decide +kernel
theorem dX6_fallingWith_15 : decode cX6_fallingWith 15 = .ok (.iload 4, 2) := by decide +kernel
theorem dX6_fallingWith_17 : decode cX6_fallingWith 17 = .ok (.bipush 8, 2) := by decide +kernel
theorem dX6_fallingWith_19 : decode cX6_fallingWith 19 = .ok (.if_icmp .ge 31, 3) := by decide +kernel
theorem dX6_fallingWith_22 : decode cX6_fallingWith 22 = .ok (.aload_n 0, 1) := by decide +kernel
theorem dX6_fallingWith_23 : decode cX6_fallingWith 23 = .ok (.getfield 11, 3) := by decide +kernel
theorem dX6_fallingWith_26 : decode cX6_fallingWith 26 = .ok (.bipush 64, 2) := by decide +kernel
theorem dX6_fallingWith_28 : decode cX6_fallingWith 28 = .ok (.iload 4, 2) := by decide +kernel
theorem dX6_fallingWith_30 : decode cX6_fallingWith 30 = .ok (.iadd, 1) := by decide +kernel
theorem dX6_fallingWith_31 : decode cX6_fallingWith 31 = .ok (.iaload, 1) := by decide +kernel
theorem dX6_fallingWith_32 : decode cX6_fallingWith 32 = .ok (.iload_n 2, 1) := by decide +kernel
theorem dX6_fallingWith_33 : decode cX6_fallingWith 33 = .ok (.iand, 1) := by decide +kernel
theorem dX6_fallingWith_34 : decode cX6_fallingWith 34 = .ok (.ifCond .eq 10, 3) := by decide +kernel
theorem dX6_fallingWith_37 : decode cX6_fallingWith 37 = .ok (.iload_n 2, 1) := by decide +kernel
theorem dX6_fallingWith_38 : decode cX6_fallingWith 38 = .ok (.iconst 1, 1) := by decide +kernel
theorem dX6_fallingWith_39 : decode cX6_fallingWith 39 = .ok (.iload 4, 2) := by decide +kernel
theorem dX6_fallingWith_41 : decode cX6_fallingWith 41 = .ok (.ishl, 1) := by decide +kernel
theorem dX6_fallingWith_42 : decode cX6_fallingWith 42 = .ok (.ior, 1) := by decide +kernel
theorem dX6_fallingWith_43 : decode cX6_fallingWith 43 = .ok (.istore_n 2, 1) := by decide +kernel
theorem dX6_fallingWith_44 : decode cX6_fallingWith 44 = .ok (.iinc 4 1, 3) := by decide +kernel
theorem dX6_fallingWith_47 : decode cX6_fallingWith 47 = .ok (.goto (-32), 3) := by decide +kernel
theorem dX6_fallingWith_50 : decode cX6_fallingWith 50 = .ok (.iinc 3 1, 3) := by decide +kernel
theorem dX6_fallingWith_53 : decode cX6_fallingWith 53 = .ok (.goto (-47), 3) := by decide +kernel
theorem dX6_fallingWith_56 : decode cX6_fallingWith 56 = .ok (.iload_n 2, 1) := by decide +kernel
theorem dX6_fallingWith_57 : decode cX6_fallingWith 57 = .ok (.ireturn, 1) := by decide +kernel
def fW_fallingWith_15 (f : (Nat → Int32)) (s2 : Int32 × Int32) : Option ((Int32 × Int32) ⊕ (Int32)) :=
  if (iz 8) ≤ s2.2 then
    some (.inr s2.1)
  else
    (nx_rd 514 f ((iz 64) + s2.2)).bind fun x3 =>
    (if (x3 &&& s2.1) = iz 0 then
       some s2.1
     else
       some (s2.1 ||| ((iz 1) <<< (s2.2 &&& 31))) : Option (Int32)).bind fun s4 =>
    some (.inl (s4, (s2.2 + iz 1)))
def fW_fallingWith_6 (u : Nat) (f : (Nat → Int32)) (s1 : Int32 × Int32) : Option ((Int32 × Int32) ⊕ (Int32)) :=
  if (iz 8) ≤ s1.2 then
    some (.inr s1.1)
  else
    (nx_iter u (fW_fallingWith_15 f) (s1.1, (iz 0))).bind fun e5 =>
    some (.inl (e5, (s1.2 + iz 1)))
def fW_fallingWith (u : Nat) (f : (Nat → Int32)) (a1 : Int32) : Option (Int32) :=
  (nx_iter u (fW_fallingWith_6 u f) (((iz 1) <<< (a1 &&& 31)), (iz 0))).bind fun e6 =>
  some e6
set_option maxRecDepth 4000 in
theorem jW_fallingWith_15 {Γ : nx_G} {M0 : nx_M} {w c : Nat} (hw : M0.1 w = some (.inr (6, [.ref c]))) (hc : w ≠ c) (f : (Nat → Int32)) (a1 : Int32) (s1 : Int32 × Int32)   (X : nx_X) (Z : nx_Z) (s2 : Int32 × Int32) : nx_J Γ X (RX6, cX6_fallingWith, 5, (some .int), "fallingWith", 1) Z (Sum.elim (fun s2 : Int32 × Int32 => .inl (15, [some (.ref w), some (.int a1), some (.int s2.1), some (.int s1.2), some (.int s2.2)], [], (wW Γ M0 c f))) (fun e5 : Int32 => .inl (50, [some (.ref w), some (.int a1), some (.int e5), some (.int s1.2), none], [], (wW Γ M0 c f)))) (.inl (15, [some (.ref w), some (.int a1), some (.int s2.1), some (.int s1.2), some (.int s2.2)], [], (wW Γ M0 c f))) (fW_fallingWith_15 f s2) := by
  unfold fW_fallingWith_15
  refine nx_iload rfl dX6_fallingWith_15 rfl ?_
  refine nx_bipush (by decide +kernel) dX6_fallingWith_17 rfl ?_
  refine nx_icmp_ge (t := 50) dX6_fallingWith_19 (by decide) rfl ?_ ?_
  · refine nx_weak (ls' := [some (.ref w), some (.int a1), some (.int s2.1), some (.int s1.2), none]) (nx_wk_s (nx_wk_s (nx_wk_s (nx_wk_s (nx_wk_n nx_wk_e))))) ?_
    obtain ⟨_, _⟩ := s1
    obtain ⟨_, _⟩ := s2
    exact nx_leaf rfl
  · refine nx_aload_n rfl dX6_fallingWith_22 rfl ?_
    refine nx_getf fl_6_11 ((nx_put_ne hc).trans hw) rfl dX6_fallingWith_23 rfl ?_
    refine nx_bipush (by decide +kernel) dX6_fallingWith_26 rfl ?_
    refine nx_iload rfl dX6_fallingWith_28 rfl ?_
    refine nx_iadd dX6_fallingWith_30 rfl ?_
    refine nx_iald nx_put_self dX6_fallingWith_31 rfl (fun x3 => ?_)
    refine nx_iload_n rfl dX6_fallingWith_32 rfl ?_
    refine nx_iand dX6_fallingWith_33 rfl ?_
    refine nx_seq (C1 := fun s4 : Int32 => .inl (44, [some (.ref w), some (.int a1), some (.int s4), some (.int s1.2), some (.int s2.2)], [], (wW Γ M0 c f))) ?_ (fun s4 => ?_)
    · refine nx_if_eq (t := 44) dX6_fallingWith_34 (by decide) rfl ?_ ?_
      · obtain ⟨_, _⟩ := s1
        obtain ⟨_, _⟩ := s2
        exact nx_leaf rfl
      · refine nx_iload_n rfl dX6_fallingWith_37 rfl ?_
        refine nx_iconst dX6_fallingWith_38 rfl ?_
        refine nx_iload rfl dX6_fallingWith_39 rfl ?_
        refine nx_ishl dX6_fallingWith_41 rfl ?_
        refine nx_ior dX6_fallingWith_42 rfl ?_
        refine nx_istore_n [some (.ref w), some (.int a1), some (.int (s2.1 ||| ((iz 1) <<< (s2.2 &&& 31)))), some (.int s1.2), some (.int s2.2)] dX6_fallingWith_43 rfl (Nat.le_of_ble_eq_true rfl) rfl rfl ?_
        obtain ⟨_, _⟩ := s1
        obtain ⟨_, _⟩ := s2
        exact nx_leaf rfl
    refine nx_iinc [some (.ref w), some (.int a1), some (.int s4), some (.int s1.2), some (.int (s2.2 + iz 1))] dX6_fallingWith_44 rfl rfl (Nat.le_of_ble_eq_true rfl) rfl rfl ?_
    refine nx_goto (q := 15) dX6_fallingWith_47 (by decide) ?_
    obtain ⟨_, _⟩ := s1
    obtain ⟨_, _⟩ := s2
    exact nx_leaf rfl
set_option maxRecDepth 4000 in
theorem jW_fallingWith_6 {Γ : nx_G} {M0 : nx_M} {w c : Nat} (hw : M0.1 w = some (.inr (6, [.ref c]))) (hc : w ≠ c) (u : Nat) (f : (Nat → Int32)) (a1 : Int32)   (X : nx_X) (Z : nx_Z) (s1 : Int32 × Int32) : nx_J Γ X (RX6, cX6_fallingWith, 5, (some .int), "fallingWith", 1) Z (Sum.elim (fun s1 : Int32 × Int32 => .inl (6, [some (.ref w), some (.int a1), some (.int s1.1), some (.int s1.2), none], [], (wW Γ M0 c f))) (fun e6 : Int32 => .inl (56, [some (.ref w), some (.int a1), some (.int e6), none, none], [], (wW Γ M0 c f)))) (.inl (6, [some (.ref w), some (.int a1), some (.int s1.1), some (.int s1.2), none], [], (wW Γ M0 c f))) (fW_fallingWith_6 u f s1) := by
  unfold fW_fallingWith_6
  refine nx_iload_n rfl dX6_fallingWith_6 rfl ?_
  refine nx_bipush (by decide +kernel) dX6_fallingWith_7 rfl ?_
  refine nx_icmp_ge (t := 56) dX6_fallingWith_9 (by decide) rfl ?_ ?_
  · refine nx_weak (ls' := [some (.ref w), some (.int a1), some (.int s1.1), none, none]) (nx_wk_s (nx_wk_s (nx_wk_s (nx_wk_n (nx_wk_n nx_wk_e))))) ?_
    obtain ⟨_, _⟩ := s1
    exact nx_leaf rfl
  · refine nx_iconst dX6_fallingWith_12 rfl ?_
    refine nx_istore [some (.ref w), some (.int a1), some (.int s1.1), some (.int s1.2), some (.int (iz 0))] dX6_fallingWith_13 rfl (Nat.le_of_ble_eq_true rfl) rfl rfl ?_
    refine nx_seq (C1 := fun e5 : Int32 => .inl (50, [some (.ref w), some (.int a1), some (.int e5), some (.int s1.2), none], [], (wW Γ M0 c f))) (nx_loop (C1 := fun s2 : Int32 × Int32 => .inl (15, [some (.ref w), some (.int a1), some (.int s2.1), some (.int s1.2), some (.int s2.2)], [], (wW Γ M0 c f))) (fun s2 => jW_fallingWith_15 hw hc f a1 s1 X Z s2) (s1.1, (iz 0))) (fun e5 => ?_)
    refine nx_iinc [some (.ref w), some (.int a1), some (.int e5), some (.int (s1.2 + iz 1)), none] dX6_fallingWith_50 rfl rfl (Nat.le_of_ble_eq_true rfl) rfl rfl ?_
    refine nx_goto (q := 6) dX6_fallingWith_53 (by decide) ?_
    obtain ⟨_, _⟩ := s1
    exact nx_leaf rfl
set_option maxRecDepth 4000 in
theorem jW_fallingWith {Γ : nx_G} {M0 : nx_M} {w c : Nat} (hw : M0.1 w = some (.inr (6, [.ref c]))) (hc : w ≠ c) (u : Nat) (f : (Nat → Int32)) (a1 : Int32)   (X : nx_X) (Z : nx_Z) : nx_J Γ X (RX6, cX6_fallingWith, 5, (some .int), "fallingWith", 1) Z (fun r0 : Int32 => .inr (some (.int r0), (wW Γ M0 c f))) (.inl (0, [some (.ref w), some (.int a1), none, none, none], [], (wW Γ M0 c f))) (fW_fallingWith u f a1) := by
  unfold fW_fallingWith
  refine nx_iconst dX6_fallingWith_0 rfl ?_
  refine nx_iload_n rfl dX6_fallingWith_1 rfl ?_
  refine nx_ishl dX6_fallingWith_2 rfl ?_
  refine nx_istore_n [some (.ref w), some (.int a1), some (.int ((iz 1) <<< (a1 &&& 31))), none, none] dX6_fallingWith_3 rfl (Nat.le_of_ble_eq_true rfl) rfl rfl ?_
  refine nx_iconst dX6_fallingWith_4 rfl ?_
  refine nx_istore_n [some (.ref w), some (.int a1), some (.int ((iz 1) <<< (a1 &&& 31))), some (.int (iz 0)), none] dX6_fallingWith_5 rfl (Nat.le_of_ble_eq_true rfl) rfl rfl ?_
  refine nx_seq (C1 := fun e6 : Int32 => .inl (56, [some (.ref w), some (.int a1), some (.int e6), none, none], [], (wW Γ M0 c f))) (nx_loop (C1 := fun s1 : Int32 × Int32 => .inl (6, [some (.ref w), some (.int a1), some (.int s1.1), some (.int s1.2), none], [], (wW Γ M0 c f))) (fun s1 => jW_fallingWith_6 hw hc u f a1 X Z s1) (((iz 1) <<< (a1 &&& 31)), (iz 0))) (fun e6 => ?_)
  refine nx_iload_n rfl dX6_fallingWith_56 rfl ?_
  exact nx_iret dX6_fallingWith_57 rfl rfl
theorem cW_fallingWith (l : Launch) {Γ : nx_G} {M0 : nx_M} {w c : Nat} (hw : M0.1 w = some (.inr (6, [.ref c]))) (hc : w ≠ c) {u : Nat} {f : (Nat → Int32)} {a1 : Int32} {r : Int32}  (h : fW_fallingWith u f a1 = some r) : nx_Ct l Γ 1 yX6_fallingWith cX6_fallingWith 5 (some .int) [.ref w, .int a1] (wW Γ M0 c f) (some (.int r), (wW Γ M0 c f)) :=
  nx_ct (out := fun r0 : Int32 => (some (.int r0), (wW Γ M0 c f))) [some (.ref w), some (.int a1), none, none, none] pn_RX6 h (Nat.le_of_ble_eq_true rfl) rfl (fun X Z _ => jW_fallingWith hw hc u f a1 X Z)
theorem dX6_worstSeat_0 : decode cX6_worstSeat 0 = .ok (.iconst (-1), 1) := by decide +kernel
theorem dX6_worstSeat_1 : decode cX6_worstSeat 1 = .ok (.istore_n 1, 1) := by decide +kernel
theorem dX6_worstSeat_2 : decode cX6_worstSeat 2 = .ok (.iconst 0, 1) := by decide +kernel
theorem dX6_worstSeat_3 : decode cX6_worstSeat 3 = .ok (.istore_n 2, 1) := by decide +kernel
theorem dX6_worstSeat_4 : decode cX6_worstSeat 4 = .ok (.iconst 0, 1) := by decide +kernel
theorem dX6_worstSeat_5 : decode cX6_worstSeat 5 = .ok (.istore_n 3, 1) := by decide +kernel
theorem dX6_worstSeat_6 : decode cX6_worstSeat 6 = .ok (.iload_n 3, 1) := by decide +kernel
theorem dX6_worstSeat_7 : decode cX6_worstSeat 7 = .ok (.bipush 8, 2) := by decide +kernel
theorem dX6_worstSeat_9 : decode cX6_worstSeat 9 = .ok (.if_icmp .ge 42, 3) := by decide +kernel
theorem dX6_worstSeat_12 : decode cX6_worstSeat 12 = .ok (.aload_n 0, 1) := by decide +kernel
theorem dX6_worstSeat_13 : decode cX6_worstSeat 13 = .ok (.iload_n 3, 1) := by decide +kernel
theorem dX6_worstSeat_14 : decode cX6_worstSeat 14 = .ok (.invokevirtual 62, 3) := by decide +kernel
theorem dX6_worstSeat_17 : decode cX6_worstSeat 17 = .ok (.ifCond .eq 14, 3) := by decide +kernel
theorem dX6_worstSeat_20 : decode cX6_worstSeat 20 = .ok (.aload_n 0, 1) := by decide +kernel
theorem dX6_worstSeat_21 : decode cX6_worstSeat 21 = .ok (.iload_n 3, 1) := by decide +kernel
theorem dX6_worstSeat_22 : decode cX6_worstSeat 22 = .ok (.invokevirtual 178, 3) := by decide +kernel
theorem dX6_worstSeat_25 : decode cX6_worstSeat 25 = .ok (.invokestatic 142, 3) := by decide +kernel
theorem dX6_worstSeat_28 : decode cX6_worstSeat 28 = .ok (.goto 4, 3) := by decide +kernel
theorem dX6_worstSeat_31 : decode cX6_worstSeat 31 = .ok (.iconst 0, 1) := by decide +kernel
theorem dX6_worstSeat_32 : decode cX6_worstSeat 32 = .ok (.istore 4, 2) := by decide +kernel
theorem dX6_worstSeat_34 : decode cX6_worstSeat 34 = .ok (.iload 4, 2) := by decide +kernel
theorem dX6_worstSeat_36 : decode cX6_worstSeat 36 = .ok (.iload_n 2, 1) := by decide +kernel
theorem dX6_worstSeat_37 : decode cX6_worstSeat 37 = .ok (.if_icmp .le 8, 3) := by decide +kernel
theorem dX6_worstSeat_40 : decode cX6_worstSeat 40 = .ok (.iload_n 3, 1) := by decide +kernel
theorem dX6_worstSeat_41 : decode cX6_worstSeat 41 = .ok (.istore_n 1, 1) := by decide +kernel
theorem dX6_worstSeat_42 : decode cX6_worstSeat 42 = .ok (.iload 4, 2) := by decide +kernel
theorem dX6_worstSeat_44 : decode cX6_worstSeat 44 = .ok (.istore_n 2, 1) := by decide +kernel
theorem dX6_worstSeat_45 : decode cX6_worstSeat 45 = .ok (.iinc 3 1, 3) := by decide +kernel
theorem dX6_worstSeat_48 : decode cX6_worstSeat 48 = .ok (.goto (-42), 3) := by decide +kernel
theorem dX6_worstSeat_51 : decode cX6_worstSeat 51 = .ok (.iload_n 1, 1) := by decide +kernel
theorem dX6_worstSeat_52 : decode cX6_worstSeat 52 = .ok (.ireturn, 1) := by decide +kernel
def fW_worstSeat_6 (u : Nat) (f : (Nat → Int32)) (s1 : Int32 × Int32 × Int32) : Option ((Int32 × Int32 × Int32) ⊕ (Int32)) :=
  if (iz 8) ≤ s1.2.2 then
    some (.inr s1.1)
  else
    (fW_isLive u f s1.2.2).bind fun b2 =>
    (if b2 = true then
       (fW_fallingWith u f s1.2.2).bind fun x3 =>
       (fJ_bitCount_0f7a4 u x3).bind fun x4 =>
       some x4
     else
       some (iz 0) : Option (Int32)).bind fun s5 =>
    (if s5 ≤ s1.2.1 then
       some (s1.1, s1.2.1)
     else
       some (s1.2.2, s5) : Option (Int32 × Int32)).bind fun s6 =>
    some (.inl (s6.1, s6.2, (s1.2.2 + iz 1)))
def fW_worstSeat (u : Nat) (f : (Nat → Int32)) : Option (Int32) :=
  (nx_iter u (fW_worstSeat_6 u f) ((iz (-1)), (iz 0), (iz 0))).bind fun e7 =>
  some e7
set_option maxRecDepth 4000 in
theorem jW_worstSeat_6 {Γ : nx_G} {M0 : nx_M} {w c : Nat} (hw : M0.1 w = some (.inr (6, [.ref c]))) (hc : w ≠ c) (u : Nat) (f : (Nat → Int32))   (X : nx_X) (Z : nx_Z) (s1 : Int32 × Int32 × Int32) : nx_J Γ X (RX6, cX6_worstSeat, 5, (some .int), "worstSeat", 2) Z (Sum.elim (fun s1 : Int32 × Int32 × Int32 => .inl (6, [some (.ref w), some (.int s1.1), some (.int s1.2.1), some (.int s1.2.2), none], [], (wW Γ M0 c f))) (fun e7 : Int32 => .inl (51, [some (.ref w), some (.int e7), none, none, none], [], (wW Γ M0 c f)))) (.inl (6, [some (.ref w), some (.int s1.1), some (.int s1.2.1), some (.int s1.2.2), none], [], (wW Γ M0 c f))) (fW_worstSeat_6 u f s1) := by
  unfold fW_worstSeat_6
  refine nx_iload_n rfl dX6_worstSeat_6 rfl ?_
  refine nx_bipush (by decide +kernel) dX6_worstSeat_7 rfl ?_
  refine nx_icmp_ge (t := 51) dX6_worstSeat_9 (by decide) rfl ?_ ?_
  · refine nx_weak (ls' := [some (.ref w), some (.int s1.1), none, none, none]) (nx_wk_s (nx_wk_s (nx_wk_n (nx_wk_n (nx_wk_n nx_wk_e))))) ?_
    obtain ⟨_, _, _⟩ := s1
    exact nx_leaf rfl
  · refine nx_aload_n rfl dX6_worstSeat_12 rfl ?_
    refine nx_iload_n rfl dX6_worstSeat_13 rfl ?_
    refine nx_callVr [.int s1.2.2] (fun r => .int (bz r)) (fun _ => (wW Γ M0 c f)) cw_6_62 cv_X6_isLive (fun r e => cW_isLive X.2.1 hw hc e) ((nx_put_ne hc).trans hw) rfl rfl (Nat.le_of_ble_eq_true rfl) (Nat.le_of_ble_eq_true rfl) dX6_worstSeat_14 rfl (fun b2 => ?_)
    refine nx_seq (C1 := fun s5 : Int32 => .inl (32, [some (.ref w), some (.int s1.1), some (.int s1.2.1), some (.int s1.2.2), none], [.int s5], (wW Γ M0 c f))) ?_ (fun s5 => ?_)
    · refine nx_ifz_eq (t := 31) dX6_worstSeat_17 (by decide) rfl ?_ ?_
      · refine nx_iconst dX6_worstSeat_31 rfl ?_
        obtain ⟨_, _, _⟩ := s1
        exact nx_leaf rfl
      · refine nx_aload_n rfl dX6_worstSeat_20 rfl ?_
        refine nx_iload_n rfl dX6_worstSeat_21 rfl ?_
        refine nx_callVr [.int s1.2.2] (fun r => .int r) (fun _ => (wW Γ M0 c f)) cw_6_178 cv_X6_fallingWith (fun r e => cW_fallingWith X.2.1 hw hc e) ((nx_put_ne hc).trans hw) rfl rfl (Nat.le_of_ble_eq_true rfl) (Nat.le_of_ble_eq_true rfl) dX6_worstSeat_22 rfl (fun x3 => ?_)
        refine nx_callSr [.int x3] (fun r => .int r) (fun _ => (wW Γ M0 c f)) cw_6_142 wd_724 (fun r e => cJ_bitCount_0f7a4 X.2.1  e) rfl rfl (Nat.le_of_ble_eq_true rfl) (Nat.le_of_ble_eq_true rfl) dX6_worstSeat_25 rfl (fun x4 => ?_)
        refine nx_goto (q := 32) dX6_worstSeat_28 (by decide) ?_
        obtain ⟨_, _, _⟩ := s1
        exact nx_leaf rfl
    refine nx_istore [some (.ref w), some (.int s1.1), some (.int s1.2.1), some (.int s1.2.2), some (.int s5)] dX6_worstSeat_32 rfl (Nat.le_of_ble_eq_true rfl) rfl rfl ?_
    refine nx_iload rfl dX6_worstSeat_34 rfl ?_
    refine nx_iload_n rfl dX6_worstSeat_36 rfl ?_
    refine nx_seq (C1 := fun s6 : Int32 × Int32 => .inl (45, [some (.ref w), some (.int s6.1), some (.int s6.2), some (.int s1.2.2), some (.int s5)], [], (wW Γ M0 c f))) ?_ (fun s6 => ?_)
    · refine nx_icmp_le (t := 45) dX6_worstSeat_37 (by decide) rfl ?_ ?_
      · obtain ⟨_, _, _⟩ := s1
        exact nx_leaf rfl
      · refine nx_iload_n rfl dX6_worstSeat_40 rfl ?_
        refine nx_istore_n [some (.ref w), some (.int s1.2.2), some (.int s1.2.1), some (.int s1.2.2), some (.int s5)] dX6_worstSeat_41 rfl (Nat.le_of_ble_eq_true rfl) rfl rfl ?_
        refine nx_iload rfl dX6_worstSeat_42 rfl ?_
        refine nx_istore_n [some (.ref w), some (.int s1.2.2), some (.int s5), some (.int s1.2.2), some (.int s5)] dX6_worstSeat_44 rfl (Nat.le_of_ble_eq_true rfl) rfl rfl ?_
        obtain ⟨_, _, _⟩ := s1
        exact nx_leaf rfl
    refine nx_iinc [some (.ref w), some (.int s6.1), some (.int s6.2), some (.int (s1.2.2 + iz 1)), some (.int s5)] dX6_worstSeat_45 rfl rfl (Nat.le_of_ble_eq_true rfl) rfl rfl ?_
    refine nx_goto (q := 6) dX6_worstSeat_48 (by decide) ?_
    refine nx_weak (ls' := [some (.ref w), some (.int s6.1), some (.int s6.2), some (.int (s1.2.2 + iz 1)), none]) (nx_wk_s (nx_wk_s (nx_wk_s (nx_wk_s (nx_wk_n nx_wk_e))))) ?_
    obtain ⟨_, _, _⟩ := s1
    obtain ⟨_, _⟩ := s6
    exact nx_leaf rfl
set_option maxRecDepth 4000 in
theorem jW_worstSeat {Γ : nx_G} {M0 : nx_M} {w c : Nat} (hw : M0.1 w = some (.inr (6, [.ref c]))) (hc : w ≠ c) (u : Nat) (f : (Nat → Int32))   (X : nx_X) (Z : nx_Z) : nx_J Γ X (RX6, cX6_worstSeat, 5, (some .int), "worstSeat", 2) Z (fun r0 : Int32 => .inr (some (.int r0), (wW Γ M0 c f))) (.inl (0, [some (.ref w), none, none, none, none], [], (wW Γ M0 c f))) (fW_worstSeat u f) := by
  unfold fW_worstSeat
  refine nx_iconst dX6_worstSeat_0 rfl ?_
  refine nx_istore_n [some (.ref w), some (.int (iz (-1))), none, none, none] dX6_worstSeat_1 rfl (Nat.le_of_ble_eq_true rfl) rfl rfl ?_
  refine nx_iconst dX6_worstSeat_2 rfl ?_
  refine nx_istore_n [some (.ref w), some (.int (iz (-1))), some (.int (iz 0)), none, none] dX6_worstSeat_3 rfl (Nat.le_of_ble_eq_true rfl) rfl rfl ?_
  refine nx_iconst dX6_worstSeat_4 rfl ?_
  refine nx_istore_n [some (.ref w), some (.int (iz (-1))), some (.int (iz 0)), some (.int (iz 0)), none] dX6_worstSeat_5 rfl (Nat.le_of_ble_eq_true rfl) rfl rfl ?_
  refine nx_seq (C1 := fun e7 : Int32 => .inl (51, [some (.ref w), some (.int e7), none, none, none], [], (wW Γ M0 c f))) (nx_loop (C1 := fun s1 : Int32 × Int32 × Int32 => .inl (6, [some (.ref w), some (.int s1.1), some (.int s1.2.1), some (.int s1.2.2), none], [], (wW Γ M0 c f))) (fun s1 => jW_worstSeat_6 hw hc u f X Z s1) ((iz (-1)), (iz 0), (iz 0))) (fun e7 => ?_)
  refine nx_iload_n rfl dX6_worstSeat_51 rfl ?_
  exact nx_iret dX6_worstSeat_52 rfl rfl
theorem cW_worstSeat (l : Launch) {Γ : nx_G} {M0 : nx_M} {w c : Nat} (hw : M0.1 w = some (.inr (6, [.ref c]))) (hc : w ≠ c) {u : Nat} {f : (Nat → Int32)} {r : Int32}  (h : fW_worstSeat u f = some r) : nx_Ct l Γ 2 yX6_worstSeat cX6_worstSeat 5 (some .int) [.ref w] (wW Γ M0 c f) (some (.int r), (wW Γ M0 c f)) :=
  nx_ct (out := fun r0 : Int32 => (some (.int r0), (wW Γ M0 c f))) [some (.ref w), none, none, none, none] pn_RX6 h (Nat.le_of_ble_eq_true rfl) rfl (fun X Z _ => jW_worstSeat hw hc u f X Z)
