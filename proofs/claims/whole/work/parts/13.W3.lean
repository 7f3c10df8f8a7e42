theorem dX6_longestChain_0 : decode cX6_longestChain 0 = .ok (.aload_n 0, 1) := by decide +kernel
theorem dX6_longestChain_1 : decode cX6_longestChain 1 = .ok (.invokevirtual 181, 3) := by decide +kernel
theorem dX6_longestChain_4 : decode cX6_longestChain 4 = .ok (.istore_n 1, 1) := by decide +kernel
theorem dX6_longestChain_5 : decode cX6_longestChain 5 = .ok (.iconst 0, 1) := by decide +kernel
theorem dX6_longestChain_6 : decode cX6_longestChain 6 = .ok (.istore_n 2, 1) := by decide +kernel
theorem dX6_longestChain_7 : decode cX6_longestChain 7 = .ok (.iload_n 1, 1) := by decide +kernel
theorem dX6_longestChain_8 : decode cX6_longestChain 8 = .ok (.ifCond .eq 71, 3) := by decide +kernel
theorem dX6_longestChain_11 : decode cX6_longestChain 11 = .ok (.iload_n 2, 1) := by decide +kernel
theorem dX6_longestChain_12 : decode cX6_longestChain 12 = .ok (.bipush 8, 2) := by decide +kernel
theorem dX6_longestChain_14 : decode cX6_longestChain 14 = .ok (.if_icmp .ge 65, 3) := by decide +kernel
theorem dX6_longestChain_17 : decode cX6_longestChain 17 = .ok (.iconst 0, 1) := by decide +kernel
theorem dX6_longestChain_18 : decode cX6_longestChain 18 = .ok (.istore_n 3, 1) := by decide +kernel
theorem dX6_longestChain_19 : decode cX6_longestChain 19 = .ok (.iconst 0, 1) := by decide +kernel
theorem dX6_longestChain_20 : decode cX6_longestChain 20 = .ok (.istore 4, 2) := by decide +kernel
theorem dX6_longestChain_22 : decode cX6_longestChain 22 = .ok (.iload 4, 2) := by decide +kernel
theorem dX6_longestChain_24 : decode cX6_longestChain 24 = .ok (.bipush 8, 2) := by decide +kernel
theorem dX6_longestChain_26 : decode cX6_longestChain 26 = .ok (.if_icmp .ge 41, 3) := by decide +kernel
theorem dX6_longestChain_29 : decode cX6_longestChain 29 = .ok (.iload_n 1, 1) := by decide +kernel
theorem dX6_longestChain_30 : decode cX6_longestChain 30 = .ok (.iload 4, 2) := by decide +kernel
theorem dX6_longestChain_32 : decode cX6_longestChain 32 = .ok (.ishr, 1) := by decide +kernel
theorem dX6_longestChain_33 : decode cX6_longestChain 33 = .ok (.iconst 1, 1) := by decide +kernel
theorem dX6_longestChain_34 : decode cX6_longestChain 34 = .ok (.iand, 1) := by decide +kernel
theorem dX6_longestChain_35 : decode cX6_longestChain 35 = .ok (.iconst 1, 1) := by decide +kernel
theorem dX6_longestChain_36 : decode cX6_longestChain 36 = .ok (.if_icmp .ne 25, 3) := by decide +kernel
theorem dX6_longestChain_39 : decode cX6_longestChain 39 = .ok (.aload_n 0, 1) := by decide +kernel
theorem dX6_longestChain_40 : decode cX6_longestChain 40 = .ok (.getfield 11, 3) := by decide +kernel
theorem dX6_longestChain_43 : decode cX6_longestChain 43 = .ok (.bipush 64, 2) := by decide +kernel
theorem dX6_longestChain_45 : decode cX6_longestChain 45 = .ok (.iload 4, 2) := by decide +kernel
theorem dX6_longestChain_47 : decode cX6_longestChain 47 = .ok (.iadd, 1) := by decide +kernel
theorem dX6_longestChain_48 : decode cX6_longestChain 48 = .ok (.iaload, 1) := by decide +kernel
theorem dX6_longestChain_49 : decode cX6_longestChain 49 = .ok (.iload_n 1, 1) := by decide +kernel
theorem dX6_longestChain_50 : decode cX6_longestChain 50 = .ok (.iand, 1) := by decide +kernel
theorem dX6_longestChain_51 : decode cX6_longestChain 51 = .ok (.ifCond .ne 10, 3) := by decide +kernel
theorem dX6_longestChain_54 : decode cX6_longestChain 54 = .ok (.iload_n 3, 1) := by decide +kernel
theorem dX6_longestChain_55 : decode cX6_longestChain 55 = .ok (.iconst 1, 1) := by decide +kernel
theorem dX6_longestChain_56 : decode cX6_longestChain 56 = .ok (.iload 4, 2) := by decide +kernel
theorem dX6_longestChain_58 : decode cX6_longestChain 58 = .ok (.ishl, 1) := by decide +kernel
theorem dX6_longestChain_59 : decode cX6_longestChain 59 = .ok (.ior, 1) := by decide +kernel
theorem dX6_longestChain_60 : decode cX6_longestChain 60 = .ok (.istore_n 3, 1) := by decide +kernel
theorem dX6_longestChain_61 : decode cX6_longestChain 61 = .ok (.iinc 4 1, 3) := by decide +kernel
theorem dX6_longestChain_64 : decode cX6_longestChain 64 = .ok (.goto (-42), 3) := by decide +kernel
theorem dX6_longestChain_67 : decode cX6_longestChain 67 = .ok (.iload_n 1, 1) := by decide +kernel
theorem dX6_longestChain_68 : decode cX6_longestChain 68 = .ok (.iload_n 3, 1) := by decide +kernel
theorem dX6_longestChain_69 : decode cX6_longestChain 69 = .ok (.iconst (-1), 1) := by decide +kernel
theorem dX6_longestChain_70 : decode cX6_longestChain 70 = .ok (.ixor, 1) := by decide +kernel
theorem dX6_longestChain_71 : decode cX6_longestChain 71 = .ok (.iand, 1) := by decide +kernel
theorem dX6_longestChain_72 : decode cX6_longestChain 72 = .ok (.istore_n 1, 1) := by decide +kernel
theorem dX6_longestChain_73 : decode cX6_longestChain 73 = .ok (.iinc 2 1, 3) := by decide +kernel
theorem dX6_longestChain_76 : decode cX6_longestChain 76 = .ok (.goto (-69), 3) := by decide +kernel
theorem dX6_longestChain_79 : decode cX6_longestChain 79 = .ok (.iload_n 2, 1) := by decide +kernel
theorem dX6_longestChain_80 : decode cX6_longestChain 80 = .ok (.ireturn, 1) := by decide +kernel
def fW_longestChain_22 (f : (Nat → Int32)) (s2 : Int32 × Int32) (s3 : Int32 × Int32) : Option ((Int32 × Int32) ⊕ (Int32)) :=
  if (iz 8) ≤ s3.2 then
    some (.inr s3.1)
  else
    (if ((s2.1 >>> (s3.2 &&& 31)) &&& (iz 1)) = (iz 1) then
       (nx_rd 514 f ((iz 64) + s3.2)).bind fun x4 =>
       if (x4 &&& s2.1) = iz 0 then
         some (s3.1 ||| ((iz 1) <<< (s3.2 &&& 31)))
       else
         some s3.1
     else
       some s3.1 : Option (Int32)).bind fun s5 =>
    some (.inl (s5, (s3.2 + iz 1)))
def fW_longestChain_7 (u : Nat) (f : (Nat → Int32)) (s2 : Int32 × Int32) : Option ((Int32 × Int32) ⊕ (Int32)) :=
  if s2.1 = iz 0 then
    some (.inr s2.2)
  else
    if (iz 8) ≤ s2.2 then
      some (.inr s2.2)
    else
      (nx_iter u (fW_longestChain_22 f s2) ((iz 0), (iz 0))).bind fun e6 =>
      some (.inl ((s2.1 &&& (e6 ^^^ (iz (-1)))), (s2.2 + iz 1)))
def fW_longestChain (u : Nat) (f : (Nat → Int32)) : Option (Int32) :=
  (fW_liveSeats u f).bind fun x1 =>
  (nx_iter u (fW_longestChain_7 u f) (x1, (iz 0))).bind fun e7 =>
  some e7
set_option maxRecDepth 4000 in
theorem jW_longestChain_22 {Γ : nx_G} {M0 : nx_M} {w c : Nat} (hw : M0.1 w = some (.inr (6, [.ref c]))) (hc : w ≠ c) (f : (Nat → Int32)) (s2 : Int32 × Int32)   (X : nx_X) (Z : nx_Z) (s3 : Int32 × Int32) : nx_J Γ X (RX6, cX6_longestChain, 5, (some .int), "longestChain", 3) Z (Sum.elim (fun s3 : Int32 × Int32 => .inl (22, [some (.ref w), some (.int s2.1), some (.int s2.2), some (.int s3.1), some (.int s3.2)], [], (wW Γ M0 c f))) (fun e6 : Int32 => .inl (67, [some (.ref w), some (.int s2.1), some (.int s2.2), some (.int e6), none], [], (wW Γ M0 c f)))) (.inl (22, [some (.ref w), some (.int s2.1), some (.int s2.2), some (.int s3.1), some (.int s3.2)], [], (wW Γ M0 c f))) (fW_longestChain_22 f s2 s3) := by
  unfold fW_longestChain_22
  refine nx_iload rfl dX6_longestChain_22 rfl ?_
  refine nx_bipush (by decide +kernel) dX6_longestChain_24 rfl ?_
  refine nx_icmp_ge (t := 67) dX6_longestChain_26 (by decide) rfl ?_ ?_
  · refine nx_weak (ls' := [some (.ref w), some (.int s2.1), some (.int s2.2), some (.int s3.1), none]) (nx_wk_s (nx_wk_s (nx_wk_s (nx_wk_s (nx_wk_n nx_wk_e))))) ?_
    obtain ⟨_, _⟩ := s2
    obtain ⟨_, _⟩ := s3
    exact nx_leaf rfl
  · refine nx_iload_n rfl dX6_longestChain_29 rfl ?_
    refine nx_iload rfl dX6_longestChain_30 rfl ?_
    refine nx_ishr dX6_longestChain_32 rfl ?_
    refine nx_iconst dX6_longestChain_33 rfl ?_
    refine nx_iand dX6_longestChain_34 rfl ?_
    refine nx_iconst dX6_longestChain_35 rfl ?_
    refine nx_seq (C1 := fun s5 : Int32 => .inl (61, [some (.ref w), some (.int s2.1), some (.int s2.2), some (.int s5), some (.int s3.2)], [], (wW Γ M0 c f))) ?_ (fun s5 => ?_)
    · refine nx_icmp_ne (t := 61) dX6_longestChain_36 (by decide) rfl ?_ ?_
      · obtain ⟨_, _⟩ := s2
        obtain ⟨_, _⟩ := s3
        exact nx_leaf rfl
      · refine nx_aload_n rfl dX6_longestChain_39 rfl ?_
        refine nx_getf fl_6_11 ((nx_put_ne hc).trans hw) rfl dX6_longestChain_40 rfl ?_
        refine nx_bipush (by decide +kernel) dX6_longestChain_43 rfl ?_
        refine nx_iload rfl dX6_longestChain_45 rfl ?_
        refine nx_iadd dX6_longestChain_47 rfl ?_
        refine nx_iald nx_put_self dX6_longestChain_48 rfl (fun x4 => ?_)
        refine nx_iload_n rfl dX6_longestChain_49 rfl ?_
        refine nx_iand dX6_longestChain_50 rfl ?_
        refine nx_if_ne (t := 61) dX6_longestChain_51 (by decide) rfl ?_ ?_
        · obtain ⟨_, _⟩ := s2
          obtain ⟨_, _⟩ := s3
          exact nx_leaf rfl
        · refine nx_iload_n rfl dX6_longestChain_54 rfl ?_
          refine nx_iconst dX6_longestChain_55 rfl ?_
          refine nx_iload rfl dX6_longestChain_56 rfl ?_
          refine nx_ishl dX6_longestChain_58 rfl ?_
          refine nx_ior dX6_longestChain_59 rfl ?_
          refine nx_istore_n [some (.ref w), some (.int s2.1), some (.int s2.2), some (.int (s3.1 ||| ((iz 1) <<< (s3.2 &&& 31)))), some (.int s3.2)] dX6_longestChain_60 rfl (Nat.le_of_ble_eq_true rfl) rfl rfl ?_
          obtain ⟨_, _⟩ := s2
          obtain ⟨_, _⟩ := s3
          exact nx_leaf rfl
    refine nx_iinc [some (.ref w), some (.int s2.1), some (.int s2.2), some (.int s5), some (.int (s3.2 + iz 1))] dX6_longestChain_61 rfl rfl (Nat.le_of_ble_eq_true rfl) rfl rfl ?_
    refine nx_goto (q := 22) dX6_longestChain_64 (by decide) ?_
    obtain ⟨_, _⟩ := s2
    obtain ⟨_, _⟩ := s3
    exact nx_leaf rfl
set_option maxRecDepth 4000 in
theorem jW_longestChain_7 {Γ : nx_G} {M0 : nx_M} {w c : Nat} (hw : M0.1 w = some (.inr (6, [.ref c]))) (hc : w ≠ c) (u : Nat) (f : (Nat → Int32))   (X : nx_X) (Z : nx_Z) (s2 : Int32 × Int32) : nx_J Γ X (RX6, cX6_longestChain, 5, (some .int), "longestChain", 3) Z (Sum.elim (fun s2 : Int32 × Int32 => .inl (7, [some (.ref w), some (.int s2.1), some (.int s2.2), none, none], [], (wW Γ M0 c f))) (fun e7 : Int32 => .inl (79, [some (.ref w), none, some (.int e7), none, none], [], (wW Γ M0 c f)))) (.inl (7, [some (.ref w), some (.int s2.1), some (.int s2.2), none, none], [], (wW Γ M0 c f))) (fW_longestChain_7 u f s2) := by
  unfold fW_longestChain_7
  refine nx_iload_n rfl dX6_longestChain_7 rfl ?_
  refine nx_if_eq (t := 79) dX6_longestChain_8 (by decide) rfl ?_ ?_
  · refine nx_weak (ls' := [some (.ref w), none, some (.int s2.2), none, none]) (nx_wk_s (nx_wk_n (nx_wk_s (nx_wk_n (nx_wk_n nx_wk_e))))) ?_
    obtain ⟨_, _⟩ := s2
    exact nx_leaf rfl
  · refine nx_iload_n rfl dX6_longestChain_11 rfl ?_
    refine nx_bipush (by decide +kernel) dX6_longestChain_12 rfl ?_
    refine nx_icmp_ge (t := 79) dX6_longestChain_14 (by decide) rfl ?_ ?_
    · refine nx_weak (ls' := [some (.ref w), none, some (.int s2.2), none, none]) (nx_wk_s (nx_wk_n (nx_wk_s (nx_wk_n (nx_wk_n nx_wk_e))))) ?_
      obtain ⟨_, _⟩ := s2
      exact nx_leaf rfl
    · refine nx_iconst dX6_longestChain_17 rfl ?_
      refine nx_istore_n [some (.ref w), some (.int s2.1), some (.int s2.2), some (.int (iz 0)), none] dX6_longestChain_18 rfl (Nat.le_of_ble_eq_true rfl) rfl rfl ?_
      refine nx_iconst dX6_longestChain_19 rfl ?_
      refine nx_istore [some (.ref w), some (.int s2.1), some (.int s2.2), some (.int (iz 0)), some (.int (iz 0))] dX6_longestChain_20 rfl (Nat.le_of_ble_eq_true rfl) rfl rfl ?_
      refine nx_seq (C1 := fun e6 : Int32 => .inl (67, [some (.ref w), some (.int s2.1), some (.int s2.2), some (.int e6), none], [], (wW Γ M0 c f))) (nx_loop (C1 := fun s3 : Int32 × Int32 => .inl (22, [some (.ref w), some (.int s2.1), some (.int s2.2), some (.int s3.1), some (.int s3.2)], [], (wW Γ M0 c f))) (fun s3 => jW_longestChain_22 hw hc f s2 X Z s3) ((iz 0), (iz 0))) (fun e6 => ?_)
      refine nx_iload_n rfl dX6_longestChain_67 rfl ?_
      refine nx_iload_n rfl dX6_longestChain_68 rfl ?_
      refine nx_iconst dX6_longestChain_69 rfl ?_
      refine nx_ixor dX6_longestChain_70 rfl ?_
      refine nx_iand dX6_longestChain_71 rfl ?_
      refine nx_istore_n [some (.ref w), some (.int (s2.1 &&& (e6 ^^^ (iz (-1))))), some (.int s2.2), some (.int e6), none] dX6_longestChain_72 rfl (Nat.le_of_ble_eq_true rfl) rfl rfl ?_
      refine nx_iinc [some (.ref w), some (.int (s2.1 &&& (e6 ^^^ (iz (-1))))), some (.int (s2.2 + iz 1)), some (.int e6), none] dX6_longestChain_73 rfl rfl (Nat.le_of_ble_eq_true rfl) rfl rfl ?_
      refine nx_goto (q := 7) dX6_longestChain_76 (by decide) ?_
      refine nx_weak (ls' := [some (.ref w), some (.int (s2.1 &&& (e6 ^^^ (iz (-1))))), some (.int (s2.2 + iz 1)), none, none]) (nx_wk_s (nx_wk_s (nx_wk_s (nx_wk_n (nx_wk_n nx_wk_e))))) ?_
      obtain ⟨_, _⟩ := s2
      exact nx_leaf rfl
set_option maxRecDepth 4000 in
theorem jW_longestChain {Γ : nx_G} {M0 : nx_M} {w c : Nat} (hw : M0.1 w = some (.inr (6, [.ref c]))) (hc : w ≠ c) (u : Nat) (f : (Nat → Int32))   (X : nx_X) (Z : nx_Z) : nx_J Γ X (RX6, cX6_longestChain, 5, (some .int), "longestChain", 3) Z (fun r0 : Int32 => .inr (some (.int r0), (wW Γ M0 c f))) (.inl (0, [some (.ref w), none, none, none, none], [], (wW Γ M0 c f))) (fW_longestChain u f) := by
  unfold fW_longestChain
  refine nx_aload_n rfl dX6_longestChain_0 rfl ?_
  refine nx_callVr [] (fun r => .int r) (fun _ => (wW Γ M0 c f)) cw_6_181 cv_X6_liveSeats (fun r e => cW_liveSeats X.2.1 hw hc e) ((nx_put_ne hc).trans hw) rfl rfl (Nat.le_of_ble_eq_true rfl) (Nat.le_of_ble_eq_true rfl) dX6_longestChain_1 rfl (fun x1 => ?_)
  refine nx_istore_n [some (.ref w), some (.int x1), none, none, none] dX6_longestChain_4 rfl (Nat.le_of_ble_eq_true rfl) rfl rfl ?_
  refine nx_iconst dX6_longestChain_5 rfl ?_
  refine nx_istore_n [some (.ref w), some (.int x1), some (.int (iz 0)), none, none] dX6_longestChain_6 rfl (Nat.le_of_ble_eq_true rfl) rfl rfl ?_
  refine nx_seq (C1 := fun e7 : Int32 => .inl (79, [some (.ref w), none, some (.int e7), none, none], [], (wW Γ M0 c f))) (nx_loop (C1 := fun s2 : Int32 × Int32 => .inl (7, [some (.ref w), some (.int s2.1), some (.int s2.2), none, none], [], (wW Γ M0 c f))) (fun s2 => jW_longestChain_7 hw hc u f X Z s2) (x1, (iz 0))) (fun e7 => ?_)
  refine nx_iload_n rfl dX6_longestChain_79 rfl ?_
  exact nx_iret dX6_longestChain_80 rfl rfl
theorem cW_longestChain (l : Launch) {Γ : nx_G} {M0 : nx_M} {w c : Nat} (hw : M0.1 w = some (.inr (6, [.ref c]))) (hc : w ≠ c) {u : Nat} {f : (Nat → Int32)} {r : Int32}  (h : fW_longestChain u f = some r) : nx_Ct l Γ 3 yX6_longestChain cX6_longestChain 5 (some .int) [.ref w] (wW Γ M0 c f) (some (.int r), (wW Γ M0 c f)) :=
  nx_ct (out := fun r0 : Int32 => (some (.int r0), (wW Γ M0 c f))) [some (.ref w), none, none, none, none] pn_RX6 h (Nat.le_of_ble_eq_true rfl) rfl (fun X Z _ => jW_longestChain hw hc u f X Z)
theorem dX6_timely_0 : decode cX6_timely 0 = .ok (.iconst (-1), 1) := by decide +kernel
theorem dX6_timely_1 : decode cX6_timely 1 = .ok (.istore_n 3, 1) := by decide +kernel
theorem dX6_timely_2 : decode cX6_timely 2 = .ok (.iconst 0, 1) := by decide +kernel
theorem dX6_timely_3 : decode cX6_timely 3 = .ok (.istore 4, 2) := by decide +kernel
theorem dX6_timely_5 : decode cX6_timely 5 = .ok (.iconst 1, 1) := by decide +kernel
theorem dX6_timely_6 : decode cX6_timely 6 = .ok (.istore 5, 2) := by decide +kernel
theorem dX6_timely_8 : decode cX6_timely 8 = .ok (.iload_n 1, 1) := by decide +kernel
theorem dX6_timely_9 : decode cX6_timely 9 = .ok (.bipush 9, 2) := by decide +kernel
theorem dX6_timely_11 : decode cX6_timely 11 = .ok (.imul, 1) := by decide +kernel
theorem dX6_timely_12 : decode cX6_timely 12 = .ok (.istore 6, 2) := by decide +kernel
theorem dX6_timely_14 : decode cX6_timely 14 = .ok (.iconst 0, 1) := by decide +kernel
theorem dX6_timely_15 : decode cX6_timely 15 = .ok (.istore 7, 2) := by decide +kernel
theorem dX6_timely_17 : decode cX6_timely 17 = .ok (.iload 7, 2) := by decide +kernel
theorem dX6_timely_19 : decode cX6_timely 19 = .ok (.bipush 9, 2) := by decide +kernel
theorem dX6_timely_21 : decode cX6_timely 21 = .ok (.if_icmp .ge 94, 3) := by decide +kernel
theorem dX6_timely_24 : decode cX6_timely 24 = .ok (.iload 7, 2) := by decide +kernel
theorem dX6_timely_26 : decode cX6_timely 26 = .ok (.aload_n 0, 1) := by decide +kernel
theorem dX6_timely_27 : decode cX6_timely 27 = .ok (.getfield 11, 3) := by decide +kernel
theorem dX6_timely_30 : decode cX6_timely 30 = .ok (.sipush 232, 3) := by decide +kernel
theorem dX6_timely_33 : decode cX6_timely 33 = .ok (.iload_n 1, 1) := by decide +kernel
theorem dX6_timely_34 : decode cX6_timely 34 = .ok (.iadd, 1) := by decide +kernel
theorem dX6_timely_35 : decode cX6_timely 35 = .ok (.iaload, 1) := by decide +kernel
theorem dX6_timely_36 : decode cX6_timely 36 = .ok (.if_icmp .ge 79, 3) := by decide +kernel
theorem dX6_timely_39 : decode cX6_timely 39 = .ok (.aload_n 0, 1) := by decide +kernel
theorem dX6_timely_40 : decode cX6_timely 40 = .ok (.getfield 11, 3) := by decide +kernel
theorem dX6_timely_43 : decode cX6_timely 43 = .ok (.sipush 238, 3) := by decide +kernel
theorem dX6_timely_46 : decode cX6_timely 46 = .ok (.iload 6, 2) := by decide +kernel
theorem dX6_timely_48 : decode cX6_timely 48 = .ok (.iadd, 1) := by decide +kernel
theorem dX6_timely_49 : decode cX6_timely 49 = .ok (.iload 7, 2) := by decide +kernel
theorem dX6_timely_51 : decode cX6_timely 51 = .ok (.iadd, 1) := by decide +kernel
theorem dX6_timely_52 : decode cX6_timely 52 = .ok (.iaload, 1) := by decide +kernel
theorem dX6_timely_53 : decode cX6_timely 53 = .ok (.istore 8, 2) := by decide +kernel
theorem dX6_timely_55 : decode cX6_timely 55 = .ok (.iload 8, 2) := by decide +kernel
theorem dX6_timely_57 : decode cX6_timely 57 = .ok (.iload 5, 2) := by decide +kernel
theorem dX6_timely_59 : decode cX6_timely 59 = .ok (.if_icmp .le 29, 3) := by decide +kernel
theorem dX6_timely_62 : decode cX6_timely 62 = .ok (.iload_n 3, 1) := by decide +kernel
theorem dX6_timely_63 : decode cX6_timely 63 = .ok (.iconst (-1), 1) := by decide +kernel
theorem dX6_timely_64 : decode cX6_timely 64 = .ok (.if_icmp .ne 8, 3) := by decide +kernel
theorem dX6_timely_67 : decode cX6_timely 67 = .ok (.iload 5, 2) := by decide +kernel
theorem dX6_timely_69 : decode cX6_timely 69 = .ok (.goto 4, 3) := by decide +kernel
theorem dX6_timely_72 : decode cX6_timely 72 = .ok (.iload_n 3, 1) := by decide +kernel
theorem dX6_timely_73 : decode cX6_timely 73 = .ok (.istore_n 3, 1) := by decide +kernel
theorem dX6_timely_74 : decode cX6_timely 74 = .ok (.iload 4, 2) := by decide +kernel
theorem dX6_timely_76 : decode cX6_timely 76 = .ok (.iload 8, 2) := by decide +kernel
theorem dX6_timely_78 : decode cX6_timely 78 = .ok (.iload 5, 2) := by decide +kernel
theorem dX6_timely_80 : decode cX6_timely 80 = .ok (.isub, 1) := by decide +kernel
theorem dX6_timely_81 : decode cX6_timely 81 = .ok (.iadd, 1) := by decide +kernel
theorem dX6_timely_82 : decode cX6_timely 82 = .ok (.istore 4, 2) := by decide +kernel
theorem dX6_timely_84 : decode cX6_timely 84 = .ok (.iload 8, 2) := by decide +kernel
theorem dX6_timely_86 : decode cX6_timely 86 = .ok (.istore 5, 2) := by decide +kernel
theorem dX6_timely_88 : decode cX6_timely 88 = .ok (.iload 5, 2) := by decide +kernel
theorem dX6_timely_90 : decode cX6_timely 90 = .ok (.aload_n 0, 1) := by decide +kernel
theorem dX6_timely_91 : decode cX6_timely 91 = .ok (.getfield 11, 3) := by decide +kernel
theorem dX6_timely_94 : decode cX6_timely 94 = .ok (.sipush 346, 3) := by decide +kernel
theorem dX6_timely_97 : decode cX6_timely 97 = .ok (.iload 6, 2) := by decide +kernel
theorem dX6_timely_99 : decode cX6_timely 99 = .ok (.iadd, 1) := by decide +kernel
theorem dX6_timely_100 : decode cX6_timely 100 = .ok (.iload 7, 2) := by decide +kernel
theorem dX6_timely_102 : decode cX6_timely 102 = .ok (.iadd, 1) := by decide +kernel
theorem dX6_timely_103 : decode cX6_timely 103 = .ok (.iaload, 1) := by decide +kernel
theorem dX6_timely_104 : decode cX6_timely 104 = .ok (.invokestatic 129, 3) := by decide +kernel
theorem dX6_timely_107 : decode cX6_timely 107 = .ok (.istore 5, 2) := by decide +kernel
theorem dX6_timely_109 : decode cX6_timely 109 = .ok (.iinc 7 1, 3) := by decide +kernel
theorem dX6_timely_112 : decode cX6_timely 112 = .ok (.goto (-95), 3) := by decide +kernel
theorem dX6_timely_115 : decode cX6_timely 115 = .ok (.iload_n 3, 1) := by decide +kernel
theorem dX6_timely_116 : decode cX6_timely 116 = .ok (.iconst (-1), 1) := by decide +kernel
theorem dX6_timely_117 : decode cX6_timely 117 = .ok (.if_icmp .ne 8, 3) := by decide +kernel
theorem dX6_timely_120 : decode cX6_timely 120 = .ok (.iload 5, 2) := by decide +kernel
theorem dX6_timely_122 : decode cX6_timely 122 = .ok (.goto 4, 3) := by decide +kernel
theorem dX6_timely_125 : decode cX6_timely 125 = .ok (.iload_n 3, 1) := by decide +kernel
theorem dX6_timely_126 : decode cX6_timely 126 = .ok (.istore_n 3, 1) := by decide +kernel
theorem dX6_timely_127 : decode cX6_timely 127 = .ok (.iload 4, 2) := by decide +kernel
theorem dX6_timely_129 : decode cX6_timely 129 = .ok (.aload_n 0, 1) := by decide +kernel
theorem dX6_timely_130 : decode cX6_timely 130 = .ok (.getfield 11, 3) := by decide +kernel
theorem dX6_timely_133 : decode cX6_timely 133 = .ok (.iconst 4, 1) := by decide +kernel
theorem dX6_timely_134 : decode cX6_timely 134 = .ok (.iaload, 1) := by decide +kernel
theorem dX6_timely_135 : decode cX6_timely 135 = .ok (.iconst 1, 1) := by decide +kernel
theorem dX6_timely_136 : decode cX6_timely 136 = .ok (.iadd, 1) := by decide +kernel
theorem dX6_timely_137 : decode cX6_timely 137 = .ok (.iload 5, 2) := by decide +kernel
theorem dX6_timely_139 : decode cX6_timely 139 = .ok (.isub, 1) := by decide +kernel
theorem dX6_timely_140 : decode cX6_timely 140 = .ok (.iconst 1, 1) := by decide +kernel
theorem dX6_timely_141 : decode cX6_timely 141 = .ok (.iadd, 1) := by decide +kernel
theorem dX6_timely_142 : decode cX6_timely 142 = .ok (.iadd, 1) := by decide +kernel
theorem dX6_timely_143 : decode cX6_timely 143 = .ok (.istore 4, 2) := by decide +kernel
theorem dX6_timely_145 : decode cX6_timely 145 = .ok (.iload_n 2, 1) := by decide +kernel
theorem dX6_timely_146 : decode cX6_timely 146 = .ok (.ifCond .ne 7, 3) := by decide +kernel
theorem dX6_timely_149 : decode cX6_timely 149 = .ok (.iload_n 3, 1) := by decide +kernel
theorem dX6_timely_150 : decode cX6_timely 150 = .ok (.goto 5, 3) := by decide +kernel
theorem dX6_timely_153 : decode cX6_timely 153 = .ok (.iload 4, 2) := by decide +kernel
theorem dX6_timely_155 : decode cX6_timely 155 = .ok (.ireturn, 1) := by decide +kernel
def fW_timely_17 (f : (Nat → Int32)) (a1 : Int32) (s1 : Int32 × Int32 × Int32 × Int32) : Option ((Int32 × Int32 × Int32 × Int32) ⊕ (Int32 × Int32 × Int32)) :=
  if (iz 9) ≤ s1.2.2.2 then
    some (.inr (s1.1, s1.2.1, s1.2.2.1))
  else
    (nx_rd 514 f ((iz 232) + a1)).bind fun x2 =>
    if x2 ≤ s1.2.2.2 then
      some (.inr (s1.1, s1.2.1, s1.2.2.1))
    else
      (nx_rd 514 f (((iz 238) + (a1 * (iz 9))) + s1.2.2.2)).bind fun x3 =>
      (if x3 ≤ s1.2.2.1 then
         some (s1.1, s1.2.1, s1.2.2.1)
       else
         (if s1.1 = (iz (-1)) then
            some s1.2.2.1
          else
            some s1.1 : Option (Int32)).bind fun s4 =>
         some (s4, (s1.2.1 + (x3 - s1.2.2.1)), x3) : Option (Int32 × Int32 × Int32)).bind fun s5 =>
      (nx_rd 514 f (((iz 346) + (a1 * (iz 9))) + s1.2.2.2)).bind fun x6 =>
      some (.inl (s5.1, s5.2.1, (if s5.2.2 < x6 then x6 else s5.2.2), (s1.2.2.2 + iz 1)))
def fW_timely (u : Nat) (f : (Nat → Int32)) (a1 : Int32) (a2 : Int32) : Option (Int32) :=
  (nx_iter u (fW_timely_17 f a1) ((iz (-1)), (iz 0), (iz 1), (iz 0))).bind fun e7 =>
  (if e7.1 = (iz (-1)) then
     some e7.2.2
   else
     some e7.1 : Option (Int32)).bind fun s8 =>
  (nx_rd 514 f (iz 4)).bind fun x9 =>
  if a2 = iz 0 then
    some s8
  else
    some (e7.2.1 + (((x9 + (iz 1)) - e7.2.2) + (iz 1)))
set_option maxRecDepth 4000 in
theorem jW_timely_17 {Γ : nx_G} {M0 : nx_M} {w c : Nat} (hw : M0.1 w = some (.inr (6, [.ref c]))) (hc : w ≠ c) (f : (Nat → Int32)) (a1 : Int32) (a2 : Int32)   (X : nx_X) (Z : nx_Z) (s1 : Int32 × Int32 × Int32 × Int32) : nx_J Γ X (RX6, cX6_timely, 9, (some .int), "timely", 1) Z (Sum.elim (fun s1 : Int32 × Int32 × Int32 × Int32 => .inl (17, [some (.ref w), some (.int a1), some (.int a2), some (.int s1.1), some (.int s1.2.1), some (.int s1.2.2.1), some (.int (a1 * (iz 9))), some (.int s1.2.2.2), none], [], (wW Γ M0 c f))) (fun e7 : Int32 × Int32 × Int32 => .inl (115, [some (.ref w), some (.int a1), some (.int a2), some (.int e7.1), some (.int e7.2.1), some (.int e7.2.2), some (.int (a1 * (iz 9))), none, none], [], (wW Γ M0 c f)))) (.inl (17, [some (.ref w), some (.int a1), some (.int a2), some (.int s1.1), some (.int s1.2.1), some (.int s1.2.2.1), some (.int (a1 * (iz 9))), some (.int s1.2.2.2), none], [], (wW Γ M0 c f))) (fW_timely_17 f a1 s1) := by
  unfold fW_timely_17
  refine nx_iload rfl dX6_timely_17 rfl ?_
  refine nx_bipush (by decide +kernel) dX6_timely_19 rfl ?_
  refine nx_icmp_ge (t := 115) dX6_timely_21 (by decide) rfl ?_ ?_
  · refine nx_weak (ls' := [some (.ref w), some (.int a1), some (.int a2), some (.int s1.1), some (.int s1.2.1), some (.int s1.2.2.1), some (.int (a1 * (iz 9))), none, none]) (nx_wk_s (nx_wk_s (nx_wk_s (nx_wk_s (nx_wk_s (nx_wk_s (nx_wk_s (nx_wk_n (nx_wk_n nx_wk_e))))))))) ?_
    obtain ⟨_, _, _, _⟩ := s1
    exact nx_leaf rfl
  · refine nx_iload rfl dX6_timely_24 rfl ?_
    refine nx_aload_n rfl dX6_timely_26 rfl ?_
    refine nx_getf fl_6_11 ((nx_put_ne hc).trans hw) rfl dX6_timely_27 rfl ?_
    refine nx_sipush (by decide +kernel) dX6_timely_30 rfl ?_
    refine nx_iload_n rfl dX6_timely_33 rfl ?_
    refine nx_iadd dX6_timely_34 rfl ?_
    refine nx_iald nx_put_self dX6_timely_35 rfl (fun x2 => ?_)
    refine nx_icmp_ge (t := 115) dX6_timely_36 (by decide) rfl ?_ ?_
    · refine nx_weak (ls' := [some (.ref w), some (.int a1), some (.int a2), some (.int s1.1), some (.int s1.2.1), some (.int s1.2.2.1), some (.int (a1 * (iz 9))), none, none]) (nx_wk_s (nx_wk_s (nx_wk_s (nx_wk_s (nx_wk_s (nx_wk_s (nx_wk_s (nx_wk_n (nx_wk_n nx_wk_e))))))))) ?_
      obtain ⟨_, _, _, _⟩ := s1
      exact nx_leaf rfl
    · refine nx_aload_n rfl dX6_timely_39 rfl ?_
      refine nx_getf fl_6_11 ((nx_put_ne hc).trans hw) rfl dX6_timely_40 rfl ?_
      refine nx_sipush (by decide +kernel) dX6_timely_43 rfl ?_
      refine nx_iload rfl dX6_timely_46 rfl ?_
      refine nx_iadd dX6_timely_48 rfl ?_
      refine nx_iload rfl dX6_timely_49 rfl ?_
      refine nx_iadd dX6_timely_51 rfl ?_
      refine nx_iald nx_put_self dX6_timely_52 rfl (fun x3 => ?_)
      refine nx_istore [some (.ref w), some (.int a1), some (.int a2), some (.int s1.1), some (.int s1.2.1), some (.int s1.2.2.1), some (.int (a1 * (iz 9))), some (.int s1.2.2.2), some (.int x3)] dX6_timely_53 rfl (Nat.le_of_ble_eq_true rfl) rfl rfl ?_
      refine nx_iload rfl dX6_timely_55 rfl ?_
      refine nx_iload rfl dX6_timely_57 rfl ?_
      refine nx_seq (C1 := fun s5 : Int32 × Int32 × Int32 => .inl (88, [some (.ref w), some (.int a1), some (.int a2), some (.int s5.1), some (.int s5.2.1), some (.int s5.2.2), some (.int (a1 * (iz 9))), some (.int s1.2.2.2), some (.int x3)], [], (wW Γ M0 c f))) ?_ (fun s5 => ?_)
      · refine nx_icmp_le (t := 88) dX6_timely_59 (by decide) rfl ?_ ?_
        · obtain ⟨_, _, _, _⟩ := s1
          exact nx_leaf rfl
        · refine nx_iload_n rfl dX6_timely_62 rfl ?_
          refine nx_iconst dX6_timely_63 rfl ?_
          refine nx_seq (C1 := fun s4 : Int32 => .inl (73, [some (.ref w), some (.int a1), some (.int a2), some (.int s1.1), some (.int s1.2.1), some (.int s1.2.2.1), some (.int (a1 * (iz 9))), some (.int s1.2.2.2), some (.int x3)], [.int s4], (wW Γ M0 c f))) ?_ (fun s4 => ?_)
          · refine nx_icmp_ne (t := 72) dX6_timely_64 (by decide) rfl ?_ ?_
            · refine nx_iload_n rfl dX6_timely_72 rfl ?_
              obtain ⟨_, _, _, _⟩ := s1
              exact nx_leaf rfl
            · refine nx_iload rfl dX6_timely_67 rfl ?_
              refine nx_goto (q := 73) dX6_timely_69 (by decide) ?_
              obtain ⟨_, _, _, _⟩ := s1
              exact nx_leaf rfl
          refine nx_istore_n [some (.ref w), some (.int a1), some (.int a2), some (.int s4), some (.int s1.2.1), some (.int s1.2.2.1), some (.int (a1 * (iz 9))), some (.int s1.2.2.2), some (.int x3)] dX6_timely_73 rfl (Nat.le_of_ble_eq_true rfl) rfl rfl ?_
          refine nx_iload rfl dX6_timely_74 rfl ?_
          refine nx_iload rfl dX6_timely_76 rfl ?_
          refine nx_iload rfl dX6_timely_78 rfl ?_
          refine nx_isub dX6_timely_80 rfl ?_
          refine nx_iadd dX6_timely_81 rfl ?_
          refine nx_istore [some (.ref w), some (.int a1), some (.int a2), some (.int s4), some (.int (s1.2.1 + (x3 - s1.2.2.1))), some (.int s1.2.2.1), some (.int (a1 * (iz 9))), some (.int s1.2.2.2), some (.int x3)] dX6_timely_82 rfl (Nat.le_of_ble_eq_true rfl) rfl rfl ?_
          refine nx_iload rfl dX6_timely_84 rfl ?_
          refine nx_istore [some (.ref w), some (.int a1), some (.int a2), some (.int s4), some (.int (s1.2.1 + (x3 - s1.2.2.1))), some (.int x3), some (.int (a1 * (iz 9))), some (.int s1.2.2.2), some (.int x3)] dX6_timely_86 rfl (Nat.le_of_ble_eq_true rfl) rfl rfl ?_
          obtain ⟨_, _, _, _⟩ := s1
          exact nx_leaf rfl
      refine nx_iload rfl dX6_timely_88 rfl ?_
      refine nx_aload_n rfl dX6_timely_90 rfl ?_
      refine nx_getf fl_6_11 ((nx_put_ne hc).trans hw) rfl dX6_timely_91 rfl ?_
      refine nx_sipush (by decide +kernel) dX6_timely_94 rfl ?_
      refine nx_iload rfl dX6_timely_97 rfl ?_
      refine nx_iadd dX6_timely_99 rfl ?_
      refine nx_iload rfl dX6_timely_100 rfl ?_
      refine nx_iadd dX6_timely_102 rfl ?_
      refine nx_iald nx_put_self dX6_timely_103 rfl (fun x6 => ?_)
      refine nx_max wd_684 wd_685 wd_206 wd_686 (Nat.le_of_ble_eq_true rfl) (Nat.le_of_ble_eq_true rfl) dX6_timely_104 rfl ?_
      refine nx_istore [some (.ref w), some (.int a1), some (.int a2), some (.int s5.1), some (.int s5.2.1), some (.int (if s5.2.2 < x6 then x6 else s5.2.2)), some (.int (a1 * (iz 9))), some (.int s1.2.2.2), some (.int x3)] dX6_timely_107 rfl (Nat.le_of_ble_eq_true rfl) rfl rfl ?_
      refine nx_iinc [some (.ref w), some (.int a1), some (.int a2), some (.int s5.1), some (.int s5.2.1), some (.int (if s5.2.2 < x6 then x6 else s5.2.2)), some (.int (a1 * (iz 9))), some (.int (s1.2.2.2 + iz 1)), some (.int x3)] dX6_timely_109 rfl rfl (Nat.le_of_ble_eq_true rfl) rfl rfl ?_
      refine nx_goto (q := 17) dX6_timely_112 (by decide) ?_
      refine nx_weak (ls' := [some (.ref w), some (.int a1), some (.int a2), some (.int s5.1), some (.int s5.2.1), some (.int (if s5.2.2 < x6 then x6 else s5.2.2)), some (.int (a1 * (iz 9))), some (.int (s1.2.2.2 + iz 1)), none]) (nx_wk_s (nx_wk_s (nx_wk_s (nx_wk_s (nx_wk_s (nx_wk_s (nx_wk_s (nx_wk_s (nx_wk_n nx_wk_e))))))))) ?_
      obtain ⟨_, _, _, _⟩ := s1
      obtain ⟨_, _, _⟩ := s5
      exact nx_leaf rfl
set_option maxRecDepth 4000 in
theorem jW_timely {Γ : nx_G} {M0 : nx_M} {w c : Nat} (hw : M0.1 w = some (.inr (6, [.ref c]))) (hc : w ≠ c) (u : Nat) (f : (Nat → Int32)) (a1 : Int32) (a2 : Int32)   (X : nx_X) (Z : nx_Z) : nx_J Γ X (RX6, cX6_timely, 9, (some .int), "timely", 1) Z (fun r0 : Int32 => .inr (some (.int r0), (wW Γ M0 c f))) (.inl (0, [some (.ref w), some (.int a1), some (.int a2), none, none, none, none, none, none], [], (wW Γ M0 c f))) (fW_timely u f a1 a2) := by
  unfold fW_timely
  refine nx_iconst dX6_timely_0 rfl ?_
  refine nx_istore_n [some (.ref w), some (.int a1), some (.int a2), some (.int (iz (-1))), none, none, none, none, none] dX6_timely_1 rfl (Nat.le_of_ble_eq_true rfl) rfl rfl ?_
  refine nx_iconst dX6_timely_2 rfl ?_
  refine nx_istore [some (.ref w), some (.int a1), some (.int a2), some (.int (iz (-1))), some (.int (iz 0)), none, none, none, none] dX6_timely_3 rfl (Nat.le_of_ble_eq_true rfl) rfl rfl ?_
  refine nx_iconst dX6_timely_5 rfl ?_
  refine nx_istore [some (.ref w), some (.int a1), some (.int a2), some (.int (iz (-1))), some (.int (iz 0)), some (.int (iz 1)), none, none, none] dX6_timely_6 rfl (Nat.le_of_ble_eq_true rfl) rfl rfl ?_
  refine nx_iload_n rfl dX6_timely_8 rfl ?_
  refine nx_bipush (by decide +kernel) dX6_timely_9 rfl ?_
  refine nx_imul dX6_timely_11 rfl ?_
  refine nx_istore [some (.ref w), some (.int a1), some (.int a2), some (.int (iz (-1))), some (.int (iz 0)), some (.int (iz 1)), some (.int (a1 * (iz 9))), none, none] dX6_timely_12 rfl (Nat.le_of_ble_eq_true rfl) rfl rfl ?_
  refine nx_iconst dX6_timely_14 rfl ?_
  refine nx_istore [some (.ref w), some (.int a1), some (.int a2), some (.int (iz (-1))), some (.int (iz 0)), some (.int (iz 1)), some (.int (a1 * (iz 9))), some (.int (iz 0)), none] dX6_timely_15 rfl (Nat.le_of_ble_eq_true rfl) rfl rfl ?_
  refine nx_seq (C1 := fun e7 : Int32 × Int32 × Int32 => .inl (115, [some (.ref w), some (.int a1), some (.int a2), some (.int e7.1), some (.int e7.2.1), some (.int e7.2.2), some (.int (a1 * (iz 9))), none, none], [], (wW Γ M0 c f))) (nx_loop (C1 := fun s1 : Int32 × Int32 × Int32 × Int32 => .inl (17, [some (.ref w), some (.int a1), some (.int a2), some (.int s1.1), some (.int s1.2.1), some (.int s1.2.2.1), some (.int (a1 * (iz 9))), some (.int s1.2.2.2), none], [], (wW Γ M0 c f))) (fun s1 => jW_timely_17 hw hc f a1 a2 X Z s1) ((iz (-1)), (iz 0), (iz 1), (iz 0))) (fun e7 => ?_)
  refine nx_iload_n rfl dX6_timely_115 rfl ?_
  refine nx_iconst dX6_timely_116 rfl ?_
  refine nx_seq (C1 := fun s8 : Int32 => .inl (126, [some (.ref w), some (.int a1), some (.int a2), some (.int e7.1), some (.int e7.2.1), some (.int e7.2.2), some (.int (a1 * (iz 9))), none, none], [.int s8], (wW Γ M0 c f))) ?_ (fun s8 => ?_)
  · refine nx_icmp_ne (t := 125) dX6_timely_117 (by decide) rfl ?_ ?_
    · refine nx_iload_n rfl dX6_timely_125 rfl ?_
      obtain ⟨_, _, _⟩ := e7
      exact nx_leaf rfl
    · refine nx_iload rfl dX6_timely_120 rfl ?_
      refine nx_goto (q := 126) dX6_timely_122 (by decide) ?_
      obtain ⟨_, _, _⟩ := e7
      exact nx_leaf rfl
  refine nx_istore_n [some (.ref w), some (.int a1), some (.int a2), some (.int s8), some (.int e7.2.1), some (.int e7.2.2), some (.int (a1 * (iz 9))), none, none] dX6_timely_126 rfl (Nat.le_of_ble_eq_true rfl) rfl rfl ?_
  refine nx_iload rfl dX6_timely_127 rfl ?_
  refine nx_aload_n rfl dX6_timely_129 rfl ?_
  refine nx_getf fl_6_11 ((nx_put_ne hc).trans hw) rfl dX6_timely_130 rfl ?_
  refine nx_iconst dX6_timely_133 rfl ?_
  refine nx_iald nx_put_self dX6_timely_134 rfl (fun x9 => ?_)
  refine nx_iconst dX6_timely_135 rfl ?_
  refine nx_iadd dX6_timely_136 rfl ?_
  refine nx_iload rfl dX6_timely_137 rfl ?_
  refine nx_isub dX6_timely_139 rfl ?_
  refine nx_iconst dX6_timely_140 rfl ?_
  refine nx_iadd dX6_timely_141 rfl ?_
  refine nx_iadd dX6_timely_142 rfl ?_
  refine nx_istore [some (.ref w), some (.int a1), some (.int a2), some (.int s8), some (.int (e7.2.1 + (((x9 + (iz 1)) - e7.2.2) + (iz 1)))), some (.int e7.2.2), some (.int (a1 * (iz 9))), none, none] dX6_timely_143 rfl (Nat.le_of_ble_eq_true rfl) rfl rfl ?_
  refine nx_iload_n rfl dX6_timely_145 rfl ?_
  refine nx_if_ne (t := 153) dX6_timely_146 (by decide) rfl ?_ ?_
  · refine nx_iload rfl dX6_timely_153 rfl ?_
    exact nx_iret dX6_timely_155 rfl rfl
  · refine nx_iload_n rfl dX6_timely_149 rfl ?_
    refine nx_goto (q := 155) dX6_timely_150 (by decide) ?_
    exact nx_iret dX6_timely_155 rfl rfl
theorem cW_timely (l : Launch) {Γ : nx_G} {M0 : nx_M} {w c : Nat} (hw : M0.1 w = some (.inr (6, [.ref c]))) (hc : w ≠ c) {u : Nat} {f : (Nat → Int32)} {a1 : Int32} {a2 : Int32} {r : Int32}  (h : fW_timely u f a1 a2 = some r) : nx_Ct l Γ 1 yX6_timely cX6_timely 9 (some .int) [.ref w, .int a1, .int a2] (wW Γ M0 c f) (some (.int r), (wW Γ M0 c f)) :=
  nx_ct (out := fun r0 : Int32 => (some (.int r0), (wW Γ M0 c f))) [some (.ref w), some (.int a1), some (.int a2), none, none, none, none, none, none] pn_RX6 h (Nat.le_of_ble_eq_true rfl) rfl (fun X Z _ => jW_timely hw hc u f a1 a2 X Z)
