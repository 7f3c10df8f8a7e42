theorem dX8_pruneNow_0 : decode cX8_pruneNow 0 = .ok (.aload_n 0, 1) := by decide +kernel
theorem dX8_pruneNow_1 : decode cX8_pruneNow 1 = .ok (.getfield 28, 3) := by decide +kernel
theorem dX8_pruneNow_4 : decode cX8_pruneNow 4 = .ok (.sipush 607, 3) := by decide +kernel
theorem dX8_pruneNow_7 : decode cX8_pruneNow 7 = .ok (.aload_n 0, 1) := by decide +kernel
theorem dX8_pruneNow_8 : decode cX8_pruneNow 8 = .ok (.invokevirtual 191, 3) := by decide +kernel
theorem dX8_pruneNow_11 : decode cX8_pruneNow 11 = .ok (.iastore, 1) := by decide +kernel
theorem dX8_pruneNow_12 : decode cX8_pruneNow 12 = .ok (.iconst 0, 1) := by decide +kernel
theorem dX8_pruneNow_13 : decode cX8_pruneNow 13 = .ok (.istore_n 1, 1) := by decide +kernel
theorem dX8_pruneNow_14 : decode cX8_pruneNow 14 = .ok (.iconst 0, 1) := by decide +kernel
theorem dX8_pruneNow_15 : decode cX8_pruneNow 15 = .ok (.istore_n 2, 1) := by decide +kernel
theorem dX8_pruneNow_16 : decode cX8_pruneNow 16 = .ok (.iload_n 2, 1) := by decide +kernel
theorem dX8_pruneNow_17 : decode cX8_pruneNow 17 = .ok (.aload_n 0, 1) := by decide +kernel
theorem dX8_pruneNow_18 : decode cX8_pruneNow 18 = .ok (.getfield 142, 3) := by decide +kernel
theorem dX8_pruneNow_21 : decode cX8_pruneNow 21 = .ok (.if_icmp .ge 53, 3) := by decide +kernel
theorem dX8_pruneNow_24 : decode cX8_pruneNow 24 = .ok (.aload_n 0, 1) := by decide +kernel
theorem dX8_pruneNow_25 : decode cX8_pruneNow 25 = .ok (.iload_n 2, 1) := by decide +kernel
theorem dX8_pruneNow_26 : decode cX8_pruneNow 26 = .ok (.invokevirtual 171, 3) := by decide +kernel
theorem dX8_pruneNow_29 : decode cX8_pruneNow 29 = .ok (.iconst 1, 1) := by decide +kernel
theorem dX8_pruneNow_30 : decode cX8_pruneNow 30 = .ok (.isub, 1) := by decide +kernel
theorem dX8_pruneNow_31 : decode cX8_pruneNow 31 = .ok (.istore_n 3, 1) := by decide +kernel
theorem dX8_pruneNow_32 : decode cX8_pruneNow 32 = .ok (.iload_n 3, 1) := by decide +kernel
theorem dX8_pruneNow_33 : decode cX8_pruneNow 33 = .ok (.ifCond .lt 35, 3) := by decide +kernel
theorem dX8_pruneNow_36 : decode cX8_pruneNow 36 = .ok (.aload_n 0, 1) := by decide +kernel
theorem dX8_pruneNow_37 : decode cX8_pruneNow 37 = .ok (.iload_n 2, 1) := by decide +kernel
theorem dX8_pruneNow_38 : decode cX8_pruneNow 38 = .ok (.iload_n 3, 1) := by decide +kernel
theorem dX8_pruneNow_39 : decode cX8_pruneNow 39 = .ok (.aload_n 0, 1) := by decide +kernel
theorem dX8_pruneNow_40 : decode cX8_pruneNow 40 = .ok (.getfield 28, 3) := by decide +kernel
theorem dX8_pruneNow_43 : decode cX8_pruneNow 43 = .ok (.sipush 607, 3) := by decide +kernel
theorem dX8_pruneNow_46 : decode cX8_pruneNow 46 = .ok (.iaload, 1) := by decide +kernel
theorem dX8_pruneNow_47 : decode cX8_pruneNow 47 = .ok (.invokevirtual 194, 3) := by decide +kernel
theorem dX8_pruneNow_50 : decode cX8_pruneNow 50 = .ok (.ifCond .eq 12, 3) := by decide +kernel
theorem dX8_pruneNow_53 : decode cX8_pruneNow 53 = .ok (.aload_n 0, 1) := by decide +kernel
theorem dX8_pruneNow_54 : decode cX8_pruneNow 54 = .ok (.iload_n 2, 1) := by decide +kernel
theorem dX8_pruneNow_55 : decode cX8_pruneNow 55 = .ok (.iload_n 3, 1) := by decide +kernel
theorem dX8_pruneNow_56 : decode cX8_pruneNow 56 = .ok (.invokevirtual 197, 3) := by decide +kernel
theorem dX8_pruneNow_59 : decode cX8_pruneNow 59 = .ok (.iinc 1 1, 3) := by decide +kernel
theorem dX8_pruneNow_62 : decode cX8_pruneNow 62 = .ok (.iinc 3 (-1), 3) := by decide +kernel
theorem dX8_pruneNow_65 : decode cX8_pruneNow 65 = .ok (.goto (-33), 3) := by decide +kernel
theorem dX8_pruneNow_68 : decode cX8_pruneNow 68 = .ok (.iinc 2 1, 3) := by decide +kernel
theorem dX8_pruneNow_71 : decode cX8_pruneNow 71 = .ok (.goto (-55), 3) := by decide +kernel
theorem dX8_pruneNow_74 : decode cX8_pruneNow 74 = .ok (.aload_n 0, 1) := by decide +kernel
theorem dX8_pruneNow_75 : decode cX8_pruneNow 75 = .ok (.bipush 6, 2) := by decide +kernel
theorem dX8_pruneNow_77 : decode cX8_pruneNow 77 = .ok (.iconst (-1), 1) := by decide +kernel
theorem dX8_pruneNow_78 : decode cX8_pruneNow 78 = .ok (.iload_n 1, 1) := by decide +kernel
theorem dX8_pruneNow_79 : decode cX8_pruneNow 79 = .ok (.invokevirtual 201, 3) := by decide +kernel
theorem dX8_pruneNow_82 : decode cX8_pruneNow 82 = .ok (.iload_n 1, 1) := by decide +kernel
theorem dX8_pruneNow_83 : decode cX8_pruneNow 83 = .ok (.ireturn, 1) := by decide +kernel
def fM_pruneNow_32 (u : Nat) (s3 : Int32 × Int32 × mS) (s5 : Int32 × Int32 × mS) : Option ((Int32 × Int32 × mS) ⊕ (Int32 × mS)) :=
  if s5.2.1 < iz 0 then
    some (.inr (s5.1, s5.2.2))
  else
    (nx_rd (mlen 7) (s5.2.2.1 7) (iz 607)).bind fun x6 =>
    (fM_isSpare u s5.2.2 s3.2.1 s5.2.1 x6).bind fun b7 =>
    (if b7 = true then
       (fM_dropVersion u s5.2.2 s3.2.1 s5.2.1).bind fun g8 =>
       some ((s5.1 + iz 1), g8)
     else
       some (s5.1, s5.2.2) : Option (Int32 × mS)).bind fun s9 =>
    some (.inl (s9.1, (s5.2.1 + iz (-1)), s9.2))
def fM_pruneNow_16 (u : Nat) (s3 : Int32 × Int32 × mS) : Option ((Int32 × Int32 × mS) ⊕ (Int32 × mS)) :=
  if (s3.2.2.1 0 9) ≤ s3.2.1 then
    some (.inr (s3.1, s3.2.2))
  else
    (fM_many u s3.2.2 s3.2.1).bind fun x4 =>
    (nx_iter u (fM_pruneNow_32 u s3) (s3.1, (x4 - (iz 1)), s3.2.2)).bind fun e10 =>
    some (.inl (e10.1, (s3.2.1 + iz 1), e10.2))
def fM_pruneNow (u : Nat) (g : mS) : Option (Int32 × mS) :=
  (fM_floorThen u g).bind fun x1 =>
  (mWr g 7 (iz 607) x1).bind fun g2 =>
  (nx_iter u (fM_pruneNow_16 u) ((iz 0), (iz 0), g2)).bind fun e11 =>
  (fM_note u e11.2 (iz 6) (iz (-1)) e11.1).bind fun g12 =>
  some (e11.1, g12)
set_option maxRecDepth 4000 in
theorem jM_pruneNow_32 {Γ : nx_G} {M0 : nx_M} {m : Nat} (u : Nat) (s3 : Int32 × Int32 × mS)   (X : nx_X) (Z : nx_Z) (s5 : Int32 × Int32 × mS) : nx_J Γ X (RX8, cX8_pruneNow, 4, (some .int), "pruneNow", 6) Z (Sum.elim (fun s5 : Int32 × Int32 × mS => .inl (32, [some (.ref m), some (.int s5.1), some (.int s3.2.1), some (.int s5.2.1)], [], (mW Γ M0 m s5.2.2))) (fun e10 : Int32 × mS => .inl (68, [some (.ref m), some (.int e10.1), some (.int s3.2.1), none], [], (mW Γ M0 m e10.2)))) (.inl (32, [some (.ref m), some (.int s5.1), some (.int s3.2.1), some (.int s5.2.1)], [], (mW Γ M0 m s5.2.2))) (fM_pruneNow_32 u s3 s5) := by
  unfold fM_pruneNow_32
  refine nx_iload_n rfl dX8_pruneNow_32 rfl ?_
  refine nx_if_lt (t := 68) dX8_pruneNow_33 (by decide) rfl ?_ ?_
  · refine nx_weak (ls' := [some (.ref m), some (.int s5.1), some (.int s3.2.1), none]) (nx_wk_s (nx_wk_s (nx_wk_s (nx_wk_n nx_wk_e)))) ?_
    obtain ⟨_, _, _⟩ := s3
    obtain ⟨_, _, _⟩ := s5
    exact nx_leaf rfl
  · refine nx_aload_n rfl dX8_pruneNow_36 rfl ?_
    refine nx_iload_n rfl dX8_pruneNow_37 rfl ?_
    refine nx_iload_n rfl dX8_pruneNow_38 rfl ?_
    refine nx_aload_n rfl dX8_pruneNow_39 rfl ?_
    refine nx_getf fl_8_28 mW_m rfl dX8_pruneNow_40 rfl ?_
    refine nx_sipush (by decide +kernel) dX8_pruneNow_43 rfl ?_
    refine m_iald 7 ⟨Nat.le_of_ble_eq_true rfl, Nat.le_of_ble_eq_true rfl⟩ dX8_pruneNow_46 rfl (fun x6 => ?_)
    refine nx_callVr [.int s3.2.1, .int s5.2.1, .int x6] (fun r => .int (bz r)) (fun _ => (mW Γ M0 m s5.2.2)) cw_8_194 cv_X8_isSpare (fun r e => cM_isSpare X.2.1  e) mW_m rfl rfl (Nat.le_of_ble_eq_true rfl) (Nat.le_of_ble_eq_true rfl) dX8_pruneNow_47 rfl (fun b7 => ?_)
    refine nx_seq (C1 := fun s9 : Int32 × mS => .inl (62, [some (.ref m), some (.int s9.1), some (.int s3.2.1), some (.int s5.2.1)], [], (mW Γ M0 m s9.2))) ?_ (fun s9 => ?_)
    · refine nx_ifz_eq (t := 62) dX8_pruneNow_50 (by decide) rfl ?_ ?_
      · obtain ⟨_, _, _⟩ := s3
        obtain ⟨_, _, _⟩ := s5
        exact nx_leaf rfl
      · refine nx_aload_n rfl dX8_pruneNow_53 rfl ?_
        refine nx_iload_n rfl dX8_pruneNow_54 rfl ?_
        refine nx_iload_n rfl dX8_pruneNow_55 rfl ?_
        refine nx_callVv [.int s3.2.1, .int s5.2.1] (fun r => (mW Γ M0 m r)) cw_8_197 cv_X8_dropVersion (fun r e => cM_dropVersion X.2.1  e) mW_m rfl rfl (Nat.le_of_ble_eq_true rfl) (Nat.le_of_ble_eq_true rfl) dX8_pruneNow_56 rfl (fun g8 => ?_)
        refine nx_iinc [some (.ref m), some (.int (s5.1 + iz 1)), some (.int s3.2.1), some (.int s5.2.1)] dX8_pruneNow_59 rfl rfl (Nat.le_of_ble_eq_true rfl) rfl rfl ?_
        obtain ⟨_, _, _⟩ := s3
        obtain ⟨_, _, _⟩ := s5
        exact nx_leaf rfl
    refine nx_iinc [some (.ref m), some (.int s9.1), some (.int s3.2.1), some (.int (s5.2.1 + iz (-1)))] dX8_pruneNow_62 rfl rfl (Nat.le_of_ble_eq_true rfl) rfl rfl ?_
    refine nx_goto (q := 32) dX8_pruneNow_65 (by decide) ?_
    obtain ⟨_, _, _⟩ := s3
    obtain ⟨_, _, _⟩ := s5
    obtain ⟨_, _⟩ := s9
    exact nx_leaf rfl
set_option maxRecDepth 4000 in
theorem jM_pruneNow_16 {Γ : nx_G} {M0 : nx_M} {m : Nat} (u : Nat)   (X : nx_X) (Z : nx_Z) (s3 : Int32 × Int32 × mS) : nx_J Γ X (RX8, cX8_pruneNow, 4, (some .int), "pruneNow", 6) Z (Sum.elim (fun s3 : Int32 × Int32 × mS => .inl (16, [some (.ref m), some (.int s3.1), some (.int s3.2.1), none], [], (mW Γ M0 m s3.2.2))) (fun e11 : Int32 × mS => .inl (74, [some (.ref m), some (.int e11.1), none, none], [], (mW Γ M0 m e11.2)))) (.inl (16, [some (.ref m), some (.int s3.1), some (.int s3.2.1), none], [], (mW Γ M0 m s3.2.2))) (fM_pruneNow_16 u s3) := by
  unfold fM_pruneNow_16
  refine nx_iload_n rfl dX8_pruneNow_16 rfl ?_
  refine nx_aload_n rfl dX8_pruneNow_17 rfl ?_
  refine nx_getf fl_8_142 mW_m rfl dX8_pruneNow_18 rfl ?_
  refine nx_icmp_ge (t := 74) dX8_pruneNow_21 (by decide) rfl ?_ ?_
  · refine nx_weak (ls' := [some (.ref m), some (.int s3.1), none, none]) (nx_wk_s (nx_wk_s (nx_wk_n (nx_wk_n nx_wk_e)))) ?_
    obtain ⟨_, _, _⟩ := s3
    exact nx_leaf rfl
  · refine nx_aload_n rfl dX8_pruneNow_24 rfl ?_
    refine nx_iload_n rfl dX8_pruneNow_25 rfl ?_
    refine nx_callVr [.int s3.2.1] (fun r => .int r) (fun _ => (mW Γ M0 m s3.2.2)) cw_8_171 cv_X8_many (fun r e => cM_many X.2.1  e) mW_m rfl rfl (Nat.le_of_ble_eq_true rfl) (Nat.le_of_ble_eq_true rfl) dX8_pruneNow_26 rfl (fun x4 => ?_)
    refine nx_iconst dX8_pruneNow_29 rfl ?_
    refine nx_isub dX8_pruneNow_30 rfl ?_
    refine nx_istore_n [some (.ref m), some (.int s3.1), some (.int s3.2.1), some (.int (x4 - (iz 1)))] dX8_pruneNow_31 rfl (Nat.le_of_ble_eq_true rfl) rfl rfl ?_
    refine nx_seq (C1 := fun e10 : Int32 × mS => .inl (68, [some (.ref m), some (.int e10.1), some (.int s3.2.1), none], [], (mW Γ M0 m e10.2))) (nx_loop (C1 := fun s5 : Int32 × Int32 × mS => .inl (32, [some (.ref m), some (.int s5.1), some (.int s3.2.1), some (.int s5.2.1)], [], (mW Γ M0 m s5.2.2))) (fun s5 => jM_pruneNow_32  u s3 X Z s5) (s3.1, (x4 - (iz 1)), s3.2.2)) (fun e10 => ?_)
    refine nx_iinc [some (.ref m), some (.int e10.1), some (.int (s3.2.1 + iz 1)), none] dX8_pruneNow_68 rfl rfl (Nat.le_of_ble_eq_true rfl) rfl rfl ?_
    refine nx_goto (q := 16) dX8_pruneNow_71 (by decide) ?_
    obtain ⟨_, _, _⟩ := s3
    obtain ⟨_, _⟩ := e10
    exact nx_leaf rfl
set_option maxRecDepth 4000 in
theorem jM_pruneNow {Γ : nx_G} {M0 : nx_M} {m : Nat} (u : Nat) (g : mS)   (X : nx_X) (Z : nx_Z) : nx_J Γ X (RX8, cX8_pruneNow, 4, (some .int), "pruneNow", 6) Z (fun r0 : Int32 × mS => .inr (some (.int r0.1), (mW Γ M0 m r0.2))) (.inl (0, [some (.ref m), none, none, none], [], (mW Γ M0 m g))) (fM_pruneNow u g) := by
  unfold fM_pruneNow
  refine nx_aload_n rfl dX8_pruneNow_0 rfl ?_
  refine nx_getf fl_8_28 mW_m rfl dX8_pruneNow_1 rfl ?_
  refine nx_sipush (by decide +kernel) dX8_pruneNow_4 rfl ?_
  refine nx_aload_n rfl dX8_pruneNow_7 rfl ?_
  refine nx_callVr [] (fun r => .int r) (fun _ => (mW Γ M0 m g)) cw_8_191 cv_X8_floorThen (fun r e => cM_floorThen X.2.1  e) mW_m rfl rfl (Nat.le_of_ble_eq_true rfl) (Nat.le_of_ble_eq_true rfl) dX8_pruneNow_8 rfl (fun x1 => ?_)
  refine m_iast 7 ⟨Nat.le_of_ble_eq_true rfl, Nat.le_of_ble_eq_true rfl⟩ dX8_pruneNow_11 rfl (fun g2 => ?_)
  refine nx_iconst dX8_pruneNow_12 rfl ?_
  refine nx_istore_n [some (.ref m), some (.int (iz 0)), none, none] dX8_pruneNow_13 rfl (Nat.le_of_ble_eq_true rfl) rfl rfl ?_
  refine nx_iconst dX8_pruneNow_14 rfl ?_
  refine nx_istore_n [some (.ref m), some (.int (iz 0)), some (.int (iz 0)), none] dX8_pruneNow_15 rfl (Nat.le_of_ble_eq_true rfl) rfl rfl ?_
  refine nx_seq (C1 := fun e11 : Int32 × mS => .inl (74, [some (.ref m), some (.int e11.1), none, none], [], (mW Γ M0 m e11.2))) (nx_loop (C1 := fun s3 : Int32 × Int32 × mS => .inl (16, [some (.ref m), some (.int s3.1), some (.int s3.2.1), none], [], (mW Γ M0 m s3.2.2))) (fun s3 => jM_pruneNow_16  u X Z s3) ((iz 0), (iz 0), g2)) (fun e11 => ?_)
  refine nx_aload_n rfl dX8_pruneNow_74 rfl ?_
  refine nx_bipush (by decide +kernel) dX8_pruneNow_75 rfl ?_
  refine nx_iconst dX8_pruneNow_77 rfl ?_
  refine nx_iload_n rfl dX8_pruneNow_78 rfl ?_
  refine nx_callVv [.int (iz 6), .int (iz (-1)), .int e11.1] (fun r => (mW Γ M0 m r)) cw_8_201 cv_X8_note (fun r e => cM_note X.2.1  e) mW_m rfl rfl (Nat.le_of_ble_eq_true rfl) (Nat.le_of_ble_eq_true rfl) dX8_pruneNow_79 rfl (fun g12 => ?_)
  refine nx_iload_n rfl dX8_pruneNow_82 rfl ?_
  exact nx_iret dX8_pruneNow_83 rfl rfl
theorem cM_pruneNow (l : Launch) {Γ : nx_G} {M0 : nx_M} {m : Nat} {u : Nat} {g : mS} {r : Int32 × mS}  (h : fM_pruneNow u g = some r) : nx_Ct l Γ 6 yX8_pruneNow cX8_pruneNow 4 (some .int) [.ref m] (mW Γ M0 m g) (some (.int r.1), (mW Γ M0 m r.2)) :=
  nx_ct (out := fun r0 : Int32 × mS => (some (.int r0.1), (mW Γ M0 m r0.2))) [some (.ref m), none, none, none] pn_RX8 h (Nat.le_of_ble_eq_true rfl) rfl (fun X Z _ => jM_pruneNow  u g X Z)
theorem dX8_fallOne_0 : decode cX8_fallOne 0 = .ok (.iconst 0, 1) := by decide +kernel
theorem dX8_fallOne_1 : decode cX8_fallOne 1 = .ok (.istore_n 2, 1) := by decide +kernel
theorem dX8_fallOne_2 : decode cX8_fallOne 2 = .ok (.iload_n 2, 1) := by decide +kernel
theorem dX8_fallOne_3 : decode cX8_fallOne 3 = .ok (.aload_n 0, 1) := by decide +kernel
theorem dX8_fallOne_4 : decode cX8_fallOne 4 = .ok (.getfield 142, 3) := by decide +kernel
theorem dX8_fallOne_7 : decode cX8_fallOne 7 = .ok (.if_icmp .ge 44, 3) := by decide +kernel
theorem dX8_fallOne_10 : decode cX8_fallOne 10 = .ok (.aload_n 0, 1) := by decide +kernel
theorem dX8_fallOne_11 : decode cX8_fallOne 11 = .ok (.iload_n 2, 1) := by decide +kernel
theorem dX8_fallOne_12 : decode cX8_fallOne 12 = .ok (.invokevirtual 171, 3) := by decide +kernel
theorem dX8_fallOne_15 : decode cX8_fallOne 15 = .ok (.iconst 1, 1) := by decide +kernel
theorem dX8_fallOne_16 : decode cX8_fallOne 16 = .ok (.isub, 1) := by decide +kernel
theorem dX8_fallOne_17 : decode cX8_fallOne 17 = .ok (.istore_n 3, 1) := by decide +kernel
theorem dX8_fallOne_18 : decode cX8_fallOne 18 = .ok (.iload_n 3, 1) := by decide +kernel
theorem dX8_fallOne_19 : decode cX8_fallOne 19 = .ok (.ifCond .lt 26, 3) := by decide +kernel
theorem dX8_fallOne_22 : decode cX8_fallOne 22 = .ok (.aload_n 0, 1) := by decide +kernel
theorem dX8_fallOne_23 : decode cX8_fallOne 23 = .ok (.iload_n 2, 1) := by decide +kernel
theorem dX8_fallOne_24 : decode cX8_fallOne 24 = .ok (.iload_n 3, 1) := by decide +kernel
theorem dX8_fallOne_25 : decode cX8_fallOne 25 = .ok (.iconst 4, 1) := by decide +kernel
theorem dX8_fallOne_26 : decode cX8_fallOne 26 = .ok (.invokevirtual 174, 3) := by decide +kernel
theorem dX8_fallOne_29 : decode cX8_fallOne 29 = .ok (.iload_n 1, 1) := by decide +kernel
theorem dX8_fallOne_30 : decode cX8_fallOne 30 = .ok (.if_icmp .ne 9, 3) := by decide +kernel
theorem dX8_fallOne_33 : decode cX8_fallOne 33 = .ok (.aload_n 0, 1) := by decide +kernel
theorem dX8_fallOne_34 : decode cX8_fallOne 34 = .ok (.iload_n 2, 1) := by decide +kernel
theorem dX8_fallOne_35 : decode cX8_fallOne 35 = .ok (.iload_n 3, 1) := by decide +kernel
theorem dX8_fallOne_36 : decode cX8_fallOne 36 = .ok (.invokevirtual 197, 3) := by decide +kernel
theorem dX8_fallOne_39 : decode cX8_fallOne 39 = .ok (.iinc 3 (-1), 3) := by decide +kernel
theorem dX8_fallOne_42 : decode cX8_fallOne 42 = .ok (.goto (-24), 3) := by decide +kernel
theorem dX8_fallOne_45 : decode cX8_fallOne 45 = .ok (.iinc 2 1, 3) := by decide +kernel
theorem dX8_fallOne_48 : decode cX8_fallOne 48 = .ok (.goto (-46), 3) := by decide +kernel
theorem dX8_fallOne_51 : decode cX8_fallOne 51 = .ok (.aload_n 0, 1) := by decide +kernel
theorem dX8_fallOne_52 : decode cX8_fallOne 52 = .ok (.getfield 28, 3) := by decide +kernel
theorem dX8_fallOne_55 : decode cX8_fallOne 55 = .ok (.iload_n 1, 1) := by decide +kernel
theorem dX8_fallOne_56 : decode cX8_fallOne 56 = .ok (.iconst 0, 1) := by decide +kernel
theorem dX8_fallOne_57 : decode cX8_fallOne 57 = .ok (.invokestatic 132, 3) := by decide +kernel
theorem dX8_fallOne_60 : decode cX8_fallOne 60 = .ok (.iconst 4, 1) := by decide +kernel
theorem dX8_fallOne_61 : decode cX8_fallOne 61 = .ok (.iastore, 1) := by decide +kernel
theorem dX8_fallOne_62 : decode cX8_fallOne 62 = .ok (.aload_n 0, 1) := by decide +kernel
theorem dX8_fallOne_63 : decode cX8_fallOne 63 = .ok (.getfield 28, 3) := by decide +kernel
theorem dX8_fallOne_66 : decode cX8_fallOne 66 = .ok (.iload_n 1, 1) := by decide +kernel
theorem dX8_fallOne_67 : decode cX8_fallOne 67 = .ok (.iconst 3, 1) := by decide +kernel
theorem dX8_fallOne_68 : decode cX8_fallOne 68 = .ok (.invokestatic 132, 3) := by decide +kernel
theorem dX8_fallOne_71 : decode cX8_fallOne 71 = .ok (.iconst 0, 1) := by decide +kernel
theorem dX8_fallOne_72 : decode cX8_fallOne 72 = .ok (.iastore, 1) := by decide +kernel
theorem dX8_fallOne_73 : decode cX8_fallOne 73 = .ok (.aload_n 0, 1) := by decide +kernel
theorem dX8_fallOne_74 : decode cX8_fallOne 74 = .ok (.dup, 1) := by decide +kernel
theorem dX8_fallOne_75 : decode cX8_fallOne 75 = .ok (.getfield 205, 3) := by decide +kernel
theorem dX8_fallOne_78 : decode cX8_fallOne 78 = .ok (.iconst 1, 1) := by decide +kernel
theorem dX8_fallOne_79 : decode cX8_fallOne 79 = .ok (.iadd, 1) := by decide +kernel
theorem dX8_fallOne_80 : decode cX8_fallOne 80 = .ok (.putfield 205, 3) := by decide +kernel
theorem dX8_fallOne_83 : decode cX8_fallOne 83 = .ok (.aload_n 0, 1) := by decide +kernel
theorem dX8_fallOne_84 : decode cX8_fallOne 84 = .ok (.iconst 5, 1) := by decide +kernel
theorem dX8_fallOne_85 : decode cX8_fallOne 85 = .ok (.iload_n 1, 1) := by decide +kernel
theorem dX8_fallOne_86 : decode cX8_fallOne 86 = .ok (.aload_n 0, 1) := by decide +kernel
theorem dX8_fallOne_87 : decode cX8_fallOne 87 = .ok (.iload_n 1, 1) := by decide +kernel
theorem dX8_fallOne_88 : decode cX8_fallOne 88 = .ok (.iconst 1, 1) := by decide +kernel
theorem dX8_fallOne_89 : decode cX8_fallOne 89 = .ok (.invokevirtual 165, 3) := by decide +kernel
theorem dX8_fallOne_92 : decode cX8_fallOne 92 = .ok (.invokevirtual 201, 3) := by decide +kernel
theorem dX8_fallOne_95 : decode cX8_fallOne 95 = .ok (.return_, 1) := by decide +kernel
def fM_fallOne_18 (u : Nat) (a1 : Int32) (s1 : Int32 × mS) (s3 : Int32 × mS) : Option ((Int32 × mS) ⊕ (mS)) :=
  if s3.1 < iz 0 then
    some (.inr s3.2)
  else
    (fM_its u s3.2 s1.1 s3.1 (iz 4)).bind fun x4 =>
    (if x4 = a1 then
       (fM_dropVersion u s3.2 s1.1 s3.1).bind fun g5 =>
       some g5
     else
       some s3.2 : Option (mS)).bind fun s6 =>
    some (.inl ((s3.1 + iz (-1)), s6))
def fM_fallOne_2 (u : Nat) (a1 : Int32) (s1 : Int32 × mS) : Option ((Int32 × mS) ⊕ (mS)) :=
  if (s1.2.1 0 9) ≤ s1.1 then
    some (.inr s1.2)
  else
    (fM_many u s1.2 s1.1).bind fun x2 =>
    (nx_iter u (fM_fallOne_18 u a1 s1) ((x2 - (iz 1)), s1.2)).bind fun e7 =>
    some (.inl ((s1.1 + iz 1), e7))
def fM_fallOne (u : Nat) (g : mS) (a1 : Int32) : Option (mS) :=
  (nx_iter u (fM_fallOne_2 u a1) ((iz 0), g)).bind fun e8 =>
  (fM_ofSeat u a1 (iz 0)).bind fun x9 =>
  (mWr e8 7 x9 (iz 4)).bind fun g10 =>
  (fM_ofSeat u a1 (iz 3)).bind fun x11 =>
  (mWr g10 7 x11 (iz 0)).bind fun g12 =>
  (some (mFs g12 16 ((g12.1 0 16) + (iz 1)))).bind fun g13 =>
  (fM_of u g13 a1 (iz 1)).bind fun x14 =>
  (fM_note u g13 (iz 5) a1 x14).bind fun g15 =>
  some g15
set_option maxRecDepth 4000 in
theorem jM_fallOne_18 {Γ : nx_G} {M0 : nx_M} {m : Nat} (u : Nat) (a1 : Int32) (s1 : Int32 × mS)   (X : nx_X) (Z : nx_Z) (s3 : Int32 × mS) : nx_J Γ X (RX8, cX8_fallOne, 4, none, "fallOne", 4) Z (Sum.elim (fun s3 : Int32 × mS => .inl (18, [some (.ref m), some (.int a1), some (.int s1.1), some (.int s3.1)], [], (mW Γ M0 m s3.2))) (fun e7 : mS => .inl (45, [some (.ref m), some (.int a1), some (.int s1.1), none], [], (mW Γ M0 m e7)))) (.inl (18, [some (.ref m), some (.int a1), some (.int s1.1), some (.int s3.1)], [], (mW Γ M0 m s3.2))) (fM_fallOne_18 u a1 s1 s3) := by
  unfold fM_fallOne_18
  refine nx_iload_n rfl dX8_fallOne_18 rfl ?_
  refine nx_if_lt (t := 45) dX8_fallOne_19 (by decide) rfl ?_ ?_
  · refine nx_weak (ls' := [some (.ref m), some (.int a1), some (.int s1.1), none]) (nx_wk_s (nx_wk_s (nx_wk_s (nx_wk_n nx_wk_e)))) ?_
    obtain ⟨_, _⟩ := s1
    obtain ⟨_, _⟩ := s3
    exact nx_leaf rfl
  · refine nx_aload_n rfl dX8_fallOne_22 rfl ?_
    refine nx_iload_n rfl dX8_fallOne_23 rfl ?_
    refine nx_iload_n rfl dX8_fallOne_24 rfl ?_
    refine nx_iconst dX8_fallOne_25 rfl ?_
    refine nx_callVr [.int s1.1, .int s3.1, .int (iz 4)] (fun r => .int r) (fun _ => (mW Γ M0 m s3.2)) cw_8_174 cv_X8_its (fun r e => cM_its X.2.1  e) mW_m rfl rfl (Nat.le_of_ble_eq_true rfl) (Nat.le_of_ble_eq_true rfl) dX8_fallOne_26 rfl (fun x4 => ?_)
    refine nx_iload_n rfl dX8_fallOne_29 rfl ?_
    refine nx_seq (C1 := fun s6 : mS => .inl (39, [some (.ref m), some (.int a1), some (.int s1.1), some (.int s3.1)], [], (mW Γ M0 m s6))) ?_ (fun s6 => ?_)
    · refine nx_icmp_ne (t := 39) dX8_fallOne_30 (by decide) rfl ?_ ?_
      · obtain ⟨_, _⟩ := s1
        obtain ⟨_, _⟩ := s3
        exact nx_leaf rfl
      · refine nx_aload_n rfl dX8_fallOne_33 rfl ?_
        refine nx_iload_n rfl dX8_fallOne_34 rfl ?_
        refine nx_iload_n rfl dX8_fallOne_35 rfl ?_
        refine nx_callVv [.int s1.1, .int s3.1] (fun r => (mW Γ M0 m r)) cw_8_197 cv_X8_dropVersion (fun r e => cM_dropVersion X.2.1  e) mW_m rfl rfl (Nat.le_of_ble_eq_true rfl) (Nat.le_of_ble_eq_true rfl) dX8_fallOne_36 rfl (fun g5 => ?_)
        obtain ⟨_, _⟩ := s1
        obtain ⟨_, _⟩ := s3
        exact nx_leaf rfl
    refine nx_iinc [some (.ref m), some (.int a1), some (.int s1.1), some (.int (s3.1 + iz (-1)))] dX8_fallOne_39 rfl rfl (Nat.le_of_ble_eq_true rfl) rfl rfl ?_
    refine nx_goto (q := 18) dX8_fallOne_42 (by decide) ?_
    obtain ⟨_, _⟩ := s1
    obtain ⟨_, _⟩ := s3
    exact nx_leaf rfl
set_option maxRecDepth 4000 in
theorem jM_fallOne_2 {Γ : nx_G} {M0 : nx_M} {m : Nat} (u : Nat) (a1 : Int32)   (X : nx_X) (Z : nx_Z) (s1 : Int32 × mS) : nx_J Γ X (RX8, cX8_fallOne, 4, none, "fallOne", 4) Z (Sum.elim (fun s1 : Int32 × mS => .inl (2, [some (.ref m), some (.int a1), some (.int s1.1), none], [], (mW Γ M0 m s1.2))) (fun e8 : mS => .inl (51, [some (.ref m), some (.int a1), none, none], [], (mW Γ M0 m e8)))) (.inl (2, [some (.ref m), some (.int a1), some (.int s1.1), none], [], (mW Γ M0 m s1.2))) (fM_fallOne_2 u a1 s1) := by
  unfold fM_fallOne_2
  refine nx_iload_n rfl dX8_fallOne_2 rfl ?_
  refine nx_aload_n rfl dX8_fallOne_3 rfl ?_
  refine nx_getf fl_8_142 mW_m rfl dX8_fallOne_4 rfl ?_
  refine nx_icmp_ge (t := 51) dX8_fallOne_7 (by decide) rfl ?_ ?_
  · refine nx_weak (ls' := [some (.ref m), some (.int a1), none, none]) (nx_wk_s (nx_wk_s (nx_wk_n (nx_wk_n nx_wk_e)))) ?_
    obtain ⟨_, _⟩ := s1
    exact nx_leaf rfl
  · refine nx_aload_n rfl dX8_fallOne_10 rfl ?_
    refine nx_iload_n rfl dX8_fallOne_11 rfl ?_
    refine nx_callVr [.int s1.1] (fun r => .int r) (fun _ => (mW Γ M0 m s1.2)) cw_8_171 cv_X8_many (fun r e => cM_many X.2.1  e) mW_m rfl rfl (Nat.le_of_ble_eq_true rfl) (Nat.le_of_ble_eq_true rfl) dX8_fallOne_12 rfl (fun x2 => ?_)
    refine nx_iconst dX8_fallOne_15 rfl ?_
    refine nx_isub dX8_fallOne_16 rfl ?_
    refine nx_istore_n [some (.ref m), some (.int a1), some (.int s1.1), some (.int (x2 - (iz 1)))] dX8_fallOne_17 rfl (Nat.le_of_ble_eq_true rfl) rfl rfl ?_
    refine nx_seq (C1 := fun e7 : mS => .inl (45, [some (.ref m), some (.int a1), some (.int s1.1), none], [], (mW Γ M0 m e7))) (nx_loop (C1 := fun s3 : Int32 × mS => .inl (18, [some (.ref m), some (.int a1), some (.int s1.1), some (.int s3.1)], [], (mW Γ M0 m s3.2))) (fun s3 => jM_fallOne_18  u a1 s1 X Z s3) ((x2 - (iz 1)), s1.2)) (fun e7 => ?_)
    refine nx_iinc [some (.ref m), some (.int a1), some (.int (s1.1 + iz 1)), none] dX8_fallOne_45 rfl rfl (Nat.le_of_ble_eq_true rfl) rfl rfl ?_
    refine nx_goto (q := 2) dX8_fallOne_48 (by decide) ?_
    obtain ⟨_, _⟩ := s1
    exact nx_leaf rfl
set_option maxRecDepth 4000 in
theorem jM_fallOne {Γ : nx_G} {M0 : nx_M} {m : Nat} (u : Nat) (g : mS) (a1 : Int32)   (X : nx_X) (Z : nx_Z) : nx_J Γ X (RX8, cX8_fallOne, 4, none, "fallOne", 4) Z (fun r0 : mS => .inr (none, (mW Γ M0 m r0))) (.inl (0, [some (.ref m), some (.int a1), none, none], [], (mW Γ M0 m g))) (fM_fallOne u g a1) := by
  unfold fM_fallOne
  refine nx_iconst dX8_fallOne_0 rfl ?_
  refine nx_istore_n [some (.ref m), some (.int a1), some (.int (iz 0)), none] dX8_fallOne_1 rfl (Nat.le_of_ble_eq_true rfl) rfl rfl ?_
  refine nx_seq (C1 := fun e8 : mS => .inl (51, [some (.ref m), some (.int a1), none, none], [], (mW Γ M0 m e8))) (nx_loop (C1 := fun s1 : Int32 × mS => .inl (2, [some (.ref m), some (.int a1), some (.int s1.1), none], [], (mW Γ M0 m s1.2))) (fun s1 => jM_fallOne_2  u a1 X Z s1) ((iz 0), g)) (fun e8 => ?_)
  refine nx_aload_n rfl dX8_fallOne_51 rfl ?_
  refine nx_getf fl_8_28 mW_m rfl dX8_fallOne_52 rfl ?_
  refine nx_iload_n rfl dX8_fallOne_55 rfl ?_
  refine nx_iconst dX8_fallOne_56 rfl ?_
  refine nx_callSr [.int a1, .int (iz 0)] (fun r => .int r) (fun _ => (mW Γ M0 m e8)) cw_8_132 wd_1348 (fun r e => cM_ofSeat X.2.1  e) rfl rfl (Nat.le_of_ble_eq_true rfl) (Nat.le_of_ble_eq_true rfl) dX8_fallOne_57 rfl (fun x9 => ?_)
  refine nx_iconst dX8_fallOne_60 rfl ?_
  refine m_iast 7 ⟨Nat.le_of_ble_eq_true rfl, Nat.le_of_ble_eq_true rfl⟩ dX8_fallOne_61 rfl (fun g10 => ?_)
  refine nx_aload_n rfl dX8_fallOne_62 rfl ?_
  refine nx_getf fl_8_28 mW_m rfl dX8_fallOne_63 rfl ?_
  refine nx_iload_n rfl dX8_fallOne_66 rfl ?_
  refine nx_iconst dX8_fallOne_67 rfl ?_
  refine nx_callSr [.int a1, .int (iz 3)] (fun r => .int r) (fun _ => (mW Γ M0 m g10)) cw_8_132 wd_1348 (fun r e => cM_ofSeat X.2.1  e) rfl rfl (Nat.le_of_ble_eq_true rfl) (Nat.le_of_ble_eq_true rfl) dX8_fallOne_68 rfl (fun x11 => ?_)
  refine nx_iconst dX8_fallOne_71 rfl ?_
  refine m_iast 7 ⟨Nat.le_of_ble_eq_true rfl, Nat.le_of_ble_eq_true rfl⟩ dX8_fallOne_72 rfl (fun g12 => ?_)
  refine nx_aload_n rfl dX8_fallOne_73 rfl ?_
  refine nx_dup rfl dX8_fallOne_74 rfl ?_
  refine nx_getf fl_8_205 mW_m rfl dX8_fallOne_75 rfl ?_
  refine nx_iconst dX8_fallOne_78 rfl ?_
  refine nx_iadd dX8_fallOne_79 rfl ?_
  refine m_put fl_8_205 ft_8_16 rfl rfl (Nat.le_of_ble_eq_true rfl) rfl dX8_fallOne_80 rfl (fun g13 => ?_)
  refine nx_aload_n rfl dX8_fallOne_83 rfl ?_
  refine nx_iconst dX8_fallOne_84 rfl ?_
  refine nx_iload_n rfl dX8_fallOne_85 rfl ?_
  refine nx_aload_n rfl dX8_fallOne_86 rfl ?_
  refine nx_iload_n rfl dX8_fallOne_87 rfl ?_
  refine nx_iconst dX8_fallOne_88 rfl ?_
  refine nx_callVr [.int a1, .int (iz 1)] (fun r => .int r) (fun _ => (mW Γ M0 m g13)) cw_8_165 cv_X8_of (fun r e => cM_of X.2.1  e) mW_m rfl rfl (Nat.le_of_ble_eq_true rfl) (Nat.le_of_ble_eq_true rfl) dX8_fallOne_89 rfl (fun x14 => ?_)
  refine nx_callVv [.int (iz 5), .int a1, .int x14] (fun r => (mW Γ M0 m r)) cw_8_201 cv_X8_note (fun r e => cM_note X.2.1  e) mW_m rfl rfl (Nat.le_of_ble_eq_true rfl) (Nat.le_of_ble_eq_true rfl) dX8_fallOne_92 rfl (fun g15 => ?_)
  exact nx_vret dX8_fallOne_95 rfl rfl
theorem cM_fallOne (l : Launch) {Γ : nx_G} {M0 : nx_M} {m : Nat} {u : Nat} {g : mS} {a1 : Int32} {r : mS}  (h : fM_fallOne u g a1 = some r) : nx_Ct l Γ 4 yX8_fallOne cX8_fallOne 4 none [.ref m, .int a1] (mW Γ M0 m g) (none, (mW Γ M0 m r)) :=
  nx_ct (out := fun r0 : mS => (none, (mW Γ M0 m r0))) [some (.ref m), some (.int a1), none, none] pn_RX8 h (Nat.le_of_ble_eq_true rfl) rfl (fun X Z _ => jM_fallOne  u g a1 X Z)
theorem dX8_fall_0 : decode cX8_fall 0 = .ok (.iconst 0, 1) := by decide +kernel
theorem dX8_fall_1 : decode cX8_fall 1 = .ok (.istore_n 2, 1) := by decide +kernel
theorem dX8_fall_2 : decode cX8_fall 2 = .ok (.iload_n 1, 1) := by decide +kernel
theorem dX8_fall_3 : decode cX8_fall 3 = .ok (.istore_n 3, 1) := by decide +kernel
theorem dX8_fall_4 : decode cX8_fall 4 = .ok (.iload_n 3, 1) := by decide +kernel
theorem dX8_fall_5 : decode cX8_fall 5 = .ok (.iconst (-1), 1) := by decide +kernel
theorem dX8_fall_6 : decode cX8_fall 6 = .ok (.if_icmp .eq 67, 3) := by decide +kernel
theorem dX8_fall_9 : decode cX8_fall 9 = .ok (.aload_n 0, 1) := by decide +kernel
theorem dX8_fall_10 : decode cX8_fall 10 = .ok (.iload_n 3, 1) := by decide +kernel
theorem dX8_fall_11 : decode cX8_fall 11 = .ok (.invokevirtual 208, 3) := by decide +kernel
theorem dX8_fall_14 : decode cX8_fall 14 = .ok (.iinc 2 1, 3) := by decide +kernel
theorem dX8_fall_17 : decode cX8_fall 17 = .ok (.aload_n 0, 1) := by decide +kernel
theorem dX8_fall_18 : decode cX8_fall 18 = .ok (.iconst 4, 1) := by decide +kernel
theorem dX8_fall_19 : decode cX8_fall 19 = .ok (.invokevirtual 211, 3) := by decide +kernel
theorem dX8_fall_22 : decode cX8_fall 22 = .ok (.istore 4, 2) := by decide +kernel
theorem dX8_fall_24 : decode cX8_fall 24 = .ok (.iconst (-1), 1) := by decide +kernel
theorem dX8_fall_25 : decode cX8_fall 25 = .ok (.istore_n 3, 1) := by decide +kernel
theorem dX8_fall_26 : decode cX8_fall 26 = .ok (.bipush 7, 2) := by decide +kernel
theorem dX8_fall_28 : decode cX8_fall 28 = .ok (.istore 5, 2) := by decide +kernel
theorem dX8_fall_30 : decode cX8_fall 30 = .ok (.iload 5, 2) := by decide +kernel
theorem dX8_fall_32 : decode cX8_fall 32 = .ok (.ifCond .lt 38, 3) := by decide +kernel
theorem dX8_fall_35 : decode cX8_fall 35 = .ok (.aload_n 0, 1) := by decide +kernel
theorem dX8_fall_36 : decode cX8_fall 36 = .ok (.iload 5, 2) := by decide +kernel
theorem dX8_fall_38 : decode cX8_fall 38 = .ok (.invokevirtual 180, 3) := by decide +kernel
theorem dX8_fall_41 : decode cX8_fall 41 = .ok (.ifCond .eq 21, 3) := by decide +kernel
theorem dX8_fall_44 : decode cX8_fall 44 = .ok (.aload_n 0, 1) := by decide +kernel
theorem dX8_fall_45 : decode cX8_fall 45 = .ok (.iload 5, 2) := by decide +kernel
theorem dX8_fall_47 : decode cX8_fall 47 = .ok (.iconst 3, 1) := by decide +kernel
theorem dX8_fall_48 : decode cX8_fall 48 = .ok (.invokevirtual 165, 3) := by decide +kernel
theorem dX8_fall_51 : decode cX8_fall 51 = .ok (.iload 4, 2) := by decide +kernel
theorem dX8_fall_53 : decode cX8_fall 53 = .ok (.iand, 1) := by decide +kernel
theorem dX8_fall_54 : decode cX8_fall 54 = .ok (.ifCond .eq 8, 3) := by decide +kernel
theorem dX8_fall_57 : decode cX8_fall 57 = .ok (.iload 5, 2) := by decide +kernel
theorem dX8_fall_59 : decode cX8_fall 59 = .ok (.goto 4, 3) := by decide +kernel
theorem dX8_fall_62 : decode cX8_fall 62 = .ok (.iload_n 3, 1) := by decide +kernel
theorem dX8_fall_63 : decode cX8_fall 63 = .ok (.istore_n 3, 1) := by decide +kernel
theorem dX8_fall_64 : decode cX8_fall 64 = .ok (.iinc 5 (-1), 3) := by decide +kernel
theorem dX8_fall_67 : decode cX8_fall 67 = .ok (.goto (-37), 3) := by decide +kernel
theorem dX8_fall_70 : decode cX8_fall 70 = .ok (.goto (-66), 3) := by decide +kernel
theorem dX8_fall_73 : decode cX8_fall 73 = .ok (.iload_n 2, 1) := by decide +kernel
theorem dX8_fall_74 : decode cX8_fall 74 = .ok (.ireturn, 1) := by decide +kernel
def fM_fall_30 (u : Nat) (g2 : mS) (x3 : Int32) (s4 : Int32 × Int32) : Option ((Int32 × Int32) ⊕ (Int32)) :=
  if s4.2 < iz 0 then
    some (.inr s4.1)
  else
    (fM_isOn u g2 s4.2).bind fun b5 =>
    (if b5 = true then
       (fM_of u g2 s4.2 (iz 3)).bind fun x6 =>
       if (x6 &&& x3) = iz 0 then
         some s4.1
       else
         some s4.2
     else
       some s4.1 : Option (Int32)).bind fun s7 =>
    some (.inl (s7, (s4.2 + iz (-1))))
def fM_fall_4 (u : Nat) (s1 : Int32 × Int32 × mS) : Option ((Int32 × Int32 × mS) ⊕ (Int32 × mS)) :=
  if s1.2.1 = (iz (-1)) then
    some (.inr (s1.1, s1.2.2))
  else
    (fM_fallOne u s1.2.2 s1.2.1).bind fun g2 =>
    (fM_those u g2 (iz 4)).bind fun x3 =>
    (nx_iter u (fM_fall_30 u g2 x3) ((iz (-1)), (iz 7))).bind fun e8 =>
    some (.inl ((s1.1 + iz 1), e8, g2))
def fM_fall (u : Nat) (g : mS) (a1 : Int32) : Option (Int32 × mS) :=
  (nx_iter u (fM_fall_4 u) ((iz 0), a1, g)).bind fun e9 =>
  some (e9.1, e9.2)
set_option maxRecDepth 4000 in
theorem jM_fall_30 {Γ : nx_G} {M0 : nx_M} {m : Nat} (u : Nat) (a1 : Int32) (s1 : Int32 × Int32 × mS) (g2 : mS) (x3 : Int32)   (X : nx_X) (Z : nx_Z) (s4 : Int32 × Int32) : nx_J Γ X (RX8, cX8_fall, 6, (some .int), "fall", 5) Z (Sum.elim (fun s4 : Int32 × Int32 => .inl (30, [some (.ref m), some (.int a1), some (.int (s1.1 + iz 1)), some (.int s4.1), some (.int x3), some (.int s4.2)], [], (mW Γ M0 m g2))) (fun e8 : Int32 => .inl (70, [some (.ref m), some (.int a1), some (.int (s1.1 + iz 1)), some (.int e8), some (.int x3), none], [], (mW Γ M0 m g2)))) (.inl (30, [some (.ref m), some (.int a1), some (.int (s1.1 + iz 1)), some (.int s4.1), some (.int x3), some (.int s4.2)], [], (mW Γ M0 m g2))) (fM_fall_30 u g2 x3 s4) := by
  unfold fM_fall_30
  refine nx_iload rfl dX8_fall_30 rfl ?_
  refine nx_if_lt (t := 70) dX8_fall_32 (by decide) rfl ?_ ?_
  · refine nx_weak (ls' := [some (.ref m), some (.int a1), some (.int (s1.1 + iz 1)), some (.int s4.1), some (.int x3), none]) (nx_wk_s (nx_wk_s (nx_wk_s (nx_wk_s (nx_wk_s (nx_wk_n nx_wk_e)))))) ?_
    obtain ⟨_, _, _⟩ := s1
    obtain ⟨_, _⟩ := s4
    exact nx_leaf rfl
  · refine nx_aload_n rfl dX8_fall_35 rfl ?_
    refine nx_iload rfl dX8_fall_36 rfl ?_
    refine nx_callVr [.int s4.2] (fun r => .int (bz r)) (fun _ => (mW Γ M0 m g2)) cw_8_180 cv_X8_isOn (fun r e => cM_isOn X.2.1  e) mW_m rfl rfl (Nat.le_of_ble_eq_true rfl) (Nat.le_of_ble_eq_true rfl) dX8_fall_38 rfl (fun b5 => ?_)
    refine nx_seq (C1 := fun s7 : Int32 => .inl (63, [some (.ref m), some (.int a1), some (.int (s1.1 + iz 1)), some (.int s4.1), some (.int x3), some (.int s4.2)], [.int s7], (mW Γ M0 m g2))) ?_ (fun s7 => ?_)
    · refine nx_ifz_eq (t := 62) dX8_fall_41 (by decide) rfl ?_ ?_
      · refine nx_iload_n rfl dX8_fall_62 rfl ?_
        obtain ⟨_, _, _⟩ := s1
        obtain ⟨_, _⟩ := s4
        exact nx_leaf rfl
      · refine nx_aload_n rfl dX8_fall_44 rfl ?_
        refine nx_iload rfl dX8_fall_45 rfl ?_
        refine nx_iconst dX8_fall_47 rfl ?_
        refine nx_callVr [.int s4.2, .int (iz 3)] (fun r => .int r) (fun _ => (mW Γ M0 m g2)) cw_8_165 cv_X8_of (fun r e => cM_of X.2.1  e) mW_m rfl rfl (Nat.le_of_ble_eq_true rfl) (Nat.le_of_ble_eq_true rfl) dX8_fall_48 rfl (fun x6 => ?_)
        refine nx_iload rfl dX8_fall_51 rfl ?_
        refine nx_iand dX8_fall_53 rfl ?_
        refine nx_if_eq (t := 62) dX8_fall_54 (by decide) rfl ?_ ?_
        · refine nx_iload_n rfl dX8_fall_62 rfl ?_
          obtain ⟨_, _, _⟩ := s1
          obtain ⟨_, _⟩ := s4
          exact nx_leaf rfl
        · refine nx_iload rfl dX8_fall_57 rfl ?_
          refine nx_goto (q := 63) dX8_fall_59 (by decide) ?_
          obtain ⟨_, _, _⟩ := s1
          obtain ⟨_, _⟩ := s4
          exact nx_leaf rfl
    refine nx_istore_n [some (.ref m), some (.int a1), some (.int (s1.1 + iz 1)), some (.int s7), some (.int x3), some (.int s4.2)] dX8_fall_63 rfl (Nat.le_of_ble_eq_true rfl) rfl rfl ?_
    refine nx_iinc [some (.ref m), some (.int a1), some (.int (s1.1 + iz 1)), some (.int s7), some (.int x3), some (.int (s4.2 + iz (-1)))] dX8_fall_64 rfl rfl (Nat.le_of_ble_eq_true rfl) rfl rfl ?_
    refine nx_goto (q := 30) dX8_fall_67 (by decide) ?_
    obtain ⟨_, _, _⟩ := s1
    obtain ⟨_, _⟩ := s4
    exact nx_leaf rfl
set_option maxRecDepth 4000 in
theorem jM_fall_4 {Γ : nx_G} {M0 : nx_M} {m : Nat} (u : Nat) (a1 : Int32)   (X : nx_X) (Z : nx_Z) (s1 : Int32 × Int32 × mS) : nx_J Γ X (RX8, cX8_fall, 6, (some .int), "fall", 5) Z (Sum.elim (fun s1 : Int32 × Int32 × mS => .inl (4, [some (.ref m), some (.int a1), some (.int s1.1), some (.int s1.2.1), none, none], [], (mW Γ M0 m s1.2.2))) (fun e9 : Int32 × mS => .inl (73, [some (.ref m), some (.int a1), some (.int e9.1), none, none, none], [], (mW Γ M0 m e9.2)))) (.inl (4, [some (.ref m), some (.int a1), some (.int s1.1), some (.int s1.2.1), none, none], [], (mW Γ M0 m s1.2.2))) (fM_fall_4 u s1) := by
  unfold fM_fall_4
  refine nx_iload_n rfl dX8_fall_4 rfl ?_
  refine nx_iconst dX8_fall_5 rfl ?_
  refine nx_icmp_eq (t := 73) dX8_fall_6 (by decide) rfl ?_ ?_
  · refine nx_weak (ls' := [some (.ref m), some (.int a1), some (.int s1.1), none, none, none]) (nx_wk_s (nx_wk_s (nx_wk_s (nx_wk_n (nx_wk_n (nx_wk_n nx_wk_e)))))) ?_
    obtain ⟨_, _, _⟩ := s1
    exact nx_leaf rfl
  · refine nx_aload_n rfl dX8_fall_9 rfl ?_
    refine nx_iload_n rfl dX8_fall_10 rfl ?_
    refine nx_callVv [.int s1.2.1] (fun r => (mW Γ M0 m r)) cw_8_208 cv_X8_fallOne (fun r e => cM_fallOne X.2.1  e) mW_m rfl rfl (Nat.le_of_ble_eq_true rfl) (Nat.le_of_ble_eq_true rfl) dX8_fall_11 rfl (fun g2 => ?_)
    refine nx_iinc [some (.ref m), some (.int a1), some (.int (s1.1 + iz 1)), some (.int s1.2.1), none, none] dX8_fall_14 rfl rfl (Nat.le_of_ble_eq_true rfl) rfl rfl ?_
    refine nx_aload_n rfl dX8_fall_17 rfl ?_
    refine nx_iconst dX8_fall_18 rfl ?_
    refine nx_callVr [.int (iz 4)] (fun r => .int r) (fun _ => (mW Γ M0 m g2)) cw_8_211 cv_X8_those (fun r e => cM_those X.2.1  e) mW_m rfl rfl (Nat.le_of_ble_eq_true rfl) (Nat.le_of_ble_eq_true rfl) dX8_fall_19 rfl (fun x3 => ?_)
    refine nx_istore [some (.ref m), some (.int a1), some (.int (s1.1 + iz 1)), some (.int s1.2.1), some (.int x3), none] dX8_fall_22 rfl (Nat.le_of_ble_eq_true rfl) rfl rfl ?_
    refine nx_iconst dX8_fall_24 rfl ?_
    refine nx_istore_n [some (.ref m), some (.int a1), some (.int (s1.1 + iz 1)), some (.int (iz (-1))), some (.int x3), none] dX8_fall_25 rfl (Nat.le_of_ble_eq_true rfl) rfl rfl ?_
    refine nx_bipush (by decide +kernel) dX8_fall_26 rfl ?_
    refine nx_istore [some (.ref m), some (.int a1), some (.int (s1.1 + iz 1)), some (.int (iz (-1))), some (.int x3), some (.int (iz 7))] dX8_fall_28 rfl (Nat.le_of_ble_eq_true rfl) rfl rfl ?_
    refine nx_seq (C1 := fun e8 : Int32 => .inl (70, [some (.ref m), some (.int a1), some (.int (s1.1 + iz 1)), some (.int e8), some (.int x3), none], [], (mW Γ M0 m g2))) (nx_loop (C1 := fun s4 : Int32 × Int32 => .inl (30, [some (.ref m), some (.int a1), some (.int (s1.1 + iz 1)), some (.int s4.1), some (.int x3), some (.int s4.2)], [], (mW Γ M0 m g2))) (fun s4 => jM_fall_30  u a1 s1 g2 x3 X Z s4) ((iz (-1)), (iz 7))) (fun e8 => ?_)
    refine nx_goto (q := 4) dX8_fall_70 (by decide) ?_
    refine nx_weak (ls' := [some (.ref m), some (.int a1), some (.int (s1.1 + iz 1)), some (.int e8), none, none]) (nx_wk_s (nx_wk_s (nx_wk_s (nx_wk_s (nx_wk_n (nx_wk_n nx_wk_e)))))) ?_
    obtain ⟨_, _, _⟩ := s1
    exact nx_leaf rfl
set_option maxRecDepth 4000 in
theorem jM_fall {Γ : nx_G} {M0 : nx_M} {m : Nat} (u : Nat) (g : mS) (a1 : Int32)   (X : nx_X) (Z : nx_Z) : nx_J Γ X (RX8, cX8_fall, 6, (some .int), "fall", 5) Z (fun r0 : Int32 × mS => .inr (some (.int r0.1), (mW Γ M0 m r0.2))) (.inl (0, [some (.ref m), some (.int a1), none, none, none, none], [], (mW Γ M0 m g))) (fM_fall u g a1) := by
  unfold fM_fall
  refine nx_iconst dX8_fall_0 rfl ?_
  refine nx_istore_n [some (.ref m), some (.int a1), some (.int (iz 0)), none, none, none] dX8_fall_1 rfl (Nat.le_of_ble_eq_true rfl) rfl rfl ?_
  refine nx_iload_n rfl dX8_fall_2 rfl ?_
  refine nx_istore_n [some (.ref m), some (.int a1), some (.int (iz 0)), some (.int a1), none, none] dX8_fall_3 rfl (Nat.le_of_ble_eq_true rfl) rfl rfl ?_
  refine nx_seq (C1 := fun e9 : Int32 × mS => .inl (73, [some (.ref m), some (.int a1), some (.int e9.1), none, none, none], [], (mW Γ M0 m e9.2))) (nx_loop (C1 := fun s1 : Int32 × Int32 × mS => .inl (4, [some (.ref m), some (.int a1), some (.int s1.1), some (.int s1.2.1), none, none], [], (mW Γ M0 m s1.2.2))) (fun s1 => jM_fall_4  u a1 X Z s1) ((iz 0), a1, g)) (fun e9 => ?_)
  refine nx_iload_n rfl dX8_fall_73 rfl ?_
  exact nx_iret dX8_fall_74 rfl rfl
theorem cM_fall (l : Launch) {Γ : nx_G} {M0 : nx_M} {m : Nat} {u : Nat} {g : mS} {a1 : Int32} {r : Int32 × mS}  (h : fM_fall u g a1 = some r) : nx_Ct l Γ 5 yX8_fall cX8_fall 6 (some .int) [.ref m, .int a1] (mW Γ M0 m g) (some (.int r.1), (mW Γ M0 m r.2)) :=
  nx_ct (out := fun r0 : Int32 × mS => (some (.int r0.1), (mW Γ M0 m r0.2))) [some (.ref m), some (.int a1), none, none, none, none] pn_RX8 h (Nat.le_of_ble_eq_true rfl) rfl (fun X Z _ => jM_fall  u g a1 X Z)
theorem dX8_lowestFree_0 : decode cX8_lowestFree 0 = .ok (.iconst 0, 1) := by decide +kernel
theorem dX8_lowestFree_1 : decode cX8_lowestFree 1 = .ok (.istore_n 1, 1) := by decide +kernel
theorem dX8_lowestFree_2 : decode cX8_lowestFree 2 = .ok (.iload_n 1, 1) := by decide +kernel
theorem dX8_lowestFree_3 : decode cX8_lowestFree 3 = .ok (.bipush 8, 2) := by decide +kernel
theorem dX8_lowestFree_5 : decode cX8_lowestFree 5 = .ok (.if_icmp .ge 30, 3) := by decide +kernel
theorem dX8_lowestFree_8 : decode cX8_lowestFree 8 = .ok (.aload_n 0, 1) := by decide +kernel
theorem dX8_lowestFree_9 : decode cX8_lowestFree 9 = .ok (.iload_n 1, 1) := by decide +kernel
theorem dX8_lowestFree_10 : decode cX8_lowestFree 10 = .ok (.iconst 0, 1) := by decide +kernel
theorem dX8_lowestFree_11 : decode cX8_lowestFree 11 = .ok (.invokevirtual 165, 3) := by decide +kernel
theorem dX8_lowestFree_14 : decode cX8_lowestFree 14 = .ok (.iconst 2, 1) := by decide +kernel
theorem dX8_lowestFree_15 : decode cX8_lowestFree 15 = .ok (.if_icmp .ne 14, 3) := by decide +kernel
theorem dX8_lowestFree_18 : decode cX8_lowestFree 18 = .ok (.aload_n 0, 1) := by decide +kernel
theorem dX8_lowestFree_19 : decode cX8_lowestFree 19 = .ok (.iload_n 1, 1) := by decide +kernel
theorem dX8_lowestFree_20 : decode cX8_lowestFree 20 = .ok (.iconst 3, 1) := by decide +kernel
theorem dX8_lowestFree_21 : decode cX8_lowestFree 21 = .ok (.invokevirtual 165, 3) := by decide +kernel
theorem dX8_lowestFree_24 : decode cX8_lowestFree 24 = .ok (.ifCond .ne 5, 3) := by decide +kernel
theorem dX8_lowestFree_27 : decode cX8_lowestFree 27 = .ok (.iload_n 1, 1) := by decide +kernel
theorem dX8_lowestFree_28 : decode cX8_lowestFree 28 = .ok (.ireturn, 1) := by decide +kernel
theorem dX8_lowestFree_29 : decode cX8_lowestFree 29 = .ok (.iinc 1 1, 3) := by decide +kernel
theorem dX8_lowestFree_32 : decode cX8_lowestFree 32 = .ok (.goto (-30), 3) := by decide +kernel
theorem dX8_lowestFree_35 : decode cX8_lowestFree 35 = .ok (.iconst (-1), 1) := by decide +kernel
theorem dX8_lowestFree_36 : decode cX8_lowestFree 36 = .ok (.ireturn, 1) := by decide +kernel
def fM_lowestFree_2 (u : Nat) (g : mS) (s1 : Int32) : Option ((Int32) ⊕ ((Unit) ⊕ (Int32))) :=
  if (iz 8) ≤ s1 then
    some (.inr (.inl ()))
  else
    (fM_of u g s1 (iz 0)).bind fun x2 =>
    if x2 = (iz 2) then
      (fM_of u g s1 (iz 3)).bind fun x3 =>
      if x3 = iz 0 then
        some (.inr (.inr s1))
      else
        some (.inl (s1 + iz 1))
    else
      some (.inl (s1 + iz 1))
def fM_lowestFree (u : Nat) (g : mS) : Option (Int32) :=
  (nx_iter u (fM_lowestFree_2 u g) (iz 0)).bind (Sum.elim (fun e4 =>
    some (iz (-1)))
    (fun r0 => some r0))
set_option maxRecDepth 4000 in
theorem jM_lowestFree_2 {Γ : nx_G} {M0 : nx_M} {m : Nat} (u : Nat) (g : mS)   (X : nx_X) (Z : nx_Z) (s1 : Int32) : nx_J Γ X (RX8, cX8_lowestFree, 2, (some .int), "lowestFree", 3) Z (Sum.elim (fun s1 : Int32 => .inl (2, [some (.ref m), some (.int s1)], [], (mW Γ M0 m g))) (Sum.elim (fun e4 : Unit => .inl (35, [some (.ref m), none], [], (mW Γ M0 m g))) (fun r0 : Int32 => .inr (some (.int r0), (mW Γ M0 m g))))) (.inl (2, [some (.ref m), some (.int s1)], [], (mW Γ M0 m g))) (fM_lowestFree_2 u g s1) := by
  unfold fM_lowestFree_2
  refine nx_iload_n rfl dX8_lowestFree_2 rfl ?_
  refine nx_bipush (by decide +kernel) dX8_lowestFree_3 rfl ?_
  refine nx_icmp_ge (t := 35) dX8_lowestFree_5 (by decide) rfl ?_ ?_
  · refine nx_weak (ls' := [some (.ref m), none]) (nx_wk_s (nx_wk_n nx_wk_e)) ?_
    exact nx_leaf rfl
  · refine nx_aload_n rfl dX8_lowestFree_8 rfl ?_
    refine nx_iload_n rfl dX8_lowestFree_9 rfl ?_
    refine nx_iconst dX8_lowestFree_10 rfl ?_
    refine nx_callVr [.int s1, .int (iz 0)] (fun r => .int r) (fun _ => (mW Γ M0 m g)) cw_8_165 cv_X8_of (fun r e => cM_of X.2.1  e) mW_m rfl rfl (Nat.le_of_ble_eq_true rfl) (Nat.le_of_ble_eq_true rfl) dX8_lowestFree_11 rfl (fun x2 => ?_)
    refine nx_iconst dX8_lowestFree_14 rfl ?_
    refine nx_icmp_ne (t := 29) dX8_lowestFree_15 (by decide) rfl ?_ ?_
    · refine nx_iinc [some (.ref m), some (.int (s1 + iz 1))] dX8_lowestFree_29 rfl rfl (Nat.le_of_ble_eq_true rfl) rfl rfl ?_
      refine nx_goto (q := 2) dX8_lowestFree_32 (by decide) ?_
      exact nx_leaf rfl
    · refine nx_aload_n rfl dX8_lowestFree_18 rfl ?_
      refine nx_iload_n rfl dX8_lowestFree_19 rfl ?_
      refine nx_iconst dX8_lowestFree_20 rfl ?_
      refine nx_callVr [.int s1, .int (iz 3)] (fun r => .int r) (fun _ => (mW Γ M0 m g)) cw_8_165 cv_X8_of (fun r e => cM_of X.2.1  e) mW_m rfl rfl (Nat.le_of_ble_eq_true rfl) (Nat.le_of_ble_eq_true rfl) dX8_lowestFree_21 rfl (fun x3 => ?_)
      refine nx_if_ne (t := 29) dX8_lowestFree_24 (by decide) rfl ?_ ?_
      · refine nx_iinc [some (.ref m), some (.int (s1 + iz 1))] dX8_lowestFree_29 rfl rfl (Nat.le_of_ble_eq_true rfl) rfl rfl ?_
        refine nx_goto (q := 2) dX8_lowestFree_32 (by decide) ?_
        exact nx_leaf rfl
      · refine nx_iload_n rfl dX8_lowestFree_27 rfl ?_
        exact nx_iret dX8_lowestFree_28 rfl rfl
set_option maxRecDepth 4000 in
theorem jM_lowestFree {Γ : nx_G} {M0 : nx_M} {m : Nat} (u : Nat) (g : mS)   (X : nx_X) (Z : nx_Z) : nx_J Γ X (RX8, cX8_lowestFree, 2, (some .int), "lowestFree", 3) Z (fun r0 : Int32 => .inr (some (.int r0), (mW Γ M0 m g))) (.inl (0, [some (.ref m), none], [], (mW Γ M0 m g))) (fM_lowestFree u g) := by
  unfold fM_lowestFree
  refine nx_iconst dX8_lowestFree_0 rfl ?_
  refine nx_istore_n [some (.ref m), some (.int (iz 0))] dX8_lowestFree_1 rfl (Nat.le_of_ble_eq_true rfl) rfl rfl ?_
  refine nx_seqS (Ca := fun e4 : Unit => .inl (35, [some (.ref m), none], [], (mW Γ M0 m g))) (Cb := fun r0 : Int32 => .inr (some (.int r0), (mW Γ M0 m g))) (nx_loop (C1 := fun s1 : Int32 => .inl (2, [some (.ref m), some (.int s1)], [], (mW Γ M0 m g))) (fun s1 => jM_lowestFree_2  u g X Z s1) (iz 0)) (fun e4 => ?_) (fun r0 => ?_)
  · refine nx_iconst dX8_lowestFree_35 rfl ?_
    exact nx_iret dX8_lowestFree_36 rfl rfl
  · exact nx_leaf rfl
theorem cM_lowestFree (l : Launch) {Γ : nx_G} {M0 : nx_M} {m : Nat} {u : Nat} {g : mS} {r : Int32}  (h : fM_lowestFree u g = some r) : nx_Ct l Γ 3 yX8_lowestFree cX8_lowestFree 2 (some .int) [.ref m] (mW Γ M0 m g) (some (.int r), (mW Γ M0 m g)) :=
  nx_ct (out := fun r0 : Int32 => (some (.int r0), (mW Γ M0 m g))) [some (.ref m), none] pn_RX8 h (Nat.le_of_ble_eq_true rfl) rfl (fun X Z _ => jM_lowestFree  u g X Z)
theorem dX8_sureOne_0 : decode cX8_sureOne 0 = .ok (.iconst 0, 1) := by decide +kernel
theorem dX8_sureOne_1 : decode cX8_sureOne 1 = .ok (.istore_n 2, 1) := by decide +kernel
theorem dX8_sureOne_2 : decode cX8_sureOne 2 = .ok (.iload_n 2, 1) := by decide +kernel
theorem dX8_sureOne_3 : decode cX8_sureOne 3 = .ok (.aload_n 0, 1) := by decide +kernel
theorem dX8_sureOne_4 : decode cX8_sureOne 4 = .ok (.getfield 142, 3) := by decide +kernel
theorem dX8_sureOne_7 : decode cX8_sureOne 7 = .ok (.if_icmp .ge 49, 3) := by decide +kernel
theorem dX8_sureOne_10 : decode cX8_sureOne 10 = .ok (.iconst 0, 1) := by decide +kernel
theorem dX8_sureOne_11 : decode cX8_sureOne 11 = .ok (.istore_n 3, 1) := by decide +kernel
theorem dX8_sureOne_12 : decode cX8_sureOne 12 = .ok (.iload_n 3, 1) := by decide +kernel
theorem dX8_sureOne_13 : decode cX8_sureOne 13 = .ok (.aload_n 0, 1) := by decide +kernel
theorem dX8_sureOne_14 : decode cX8_sureOne 14 = .ok (.iload_n 2, 1) := by decide +kernel
theorem dX8_sureOne_15 : decode cX8_sureOne 15 = .ok (.invokevirtual 171, 3) := by decide +kernel
theorem dX8_sureOne_18 : decode cX8_sureOne 18 = .ok (.if_icmp .ge 32, 3) := by decide +kernel
theorem dX8_sureOne_21 : decode cX8_sureOne 21 = .ok (.aload_n 0, 1) := by decide +kernel
theorem dX8_sureOne_22 : decode cX8_sureOne 22 = .ok (.iload_n 2, 1) := by decide +kernel
theorem dX8_sureOne_23 : decode cX8_sureOne 23 = .ok (.iload_n 3, 1) := by decide +kernel
theorem dX8_sureOne_24 : decode cX8_sureOne 24 = .ok (.iconst 4, 1) := by decide +kernel
theorem dX8_sureOne_25 : decode cX8_sureOne 25 = .ok (.invokevirtual 174, 3) := by decide +kernel
theorem dX8_sureOne_28 : decode cX8_sureOne 28 = .ok (.iload_n 1, 1) := by decide +kernel
theorem dX8_sureOne_29 : decode cX8_sureOne 29 = .ok (.if_icmp .ne 15, 3) := by decide +kernel
theorem dX8_sureOne_32 : decode cX8_sureOne 32 = .ok (.aload_n 0, 1) := by decide +kernel
theorem dX8_sureOne_33 : decode cX8_sureOne 33 = .ok (.getfield 28, 3) := by decide +kernel
theorem dX8_sureOne_36 : decode cX8_sureOne 36 = .ok (.iload_n 2, 1) := by decide +kernel
theorem dX8_sureOne_37 : decode cX8_sureOne 37 = .ok (.iload_n 3, 1) := by decide +kernel
theorem dX8_sureOne_38 : decode cX8_sureOne 38 = .ok (.iconst 4, 1) := by decide +kernel
theorem dX8_sureOne_39 : decode cX8_sureOne 39 = .ok (.invokestatic 138, 3) := by decide +kernel
theorem dX8_sureOne_42 : decode cX8_sureOne 42 = .ok (.iconst (-1), 1) := by decide +kernel
theorem dX8_sureOne_43 : decode cX8_sureOne 43 = .ok (.iastore, 1) := by decide +kernel
theorem dX8_sureOne_44 : decode cX8_sureOne 44 = .ok (.iinc 3 1, 3) := by decide +kernel
theorem dX8_sureOne_47 : decode cX8_sureOne 47 = .ok (.goto (-35), 3) := by decide +kernel
theorem dX8_sureOne_50 : decode cX8_sureOne 50 = .ok (.iinc 2 1, 3) := by decide +kernel
theorem dX8_sureOne_53 : decode cX8_sureOne 53 = .ok (.goto (-51), 3) := by decide +kernel
theorem dX8_sureOne_56 : decode cX8_sureOne 56 = .ok (.aload_n 0, 1) := by decide +kernel
theorem dX8_sureOne_57 : decode cX8_sureOne 57 = .ok (.getfield 28, 3) := by decide +kernel
theorem dX8_sureOne_60 : decode cX8_sureOne 60 = .ok (.iload_n 1, 1) := by decide +kernel
theorem dX8_sureOne_61 : decode cX8_sureOne 61 = .ok (.iconst 0, 1) := by decide +kernel
theorem dX8_sureOne_62 : decode cX8_sureOne 62 = .ok (.invokestatic 132, 3) := by decide +kernel
theorem dX8_sureOne_65 : decode cX8_sureOne 65 = .ok (.iconst 3, 1) := by decide +kernel
theorem dX8_sureOne_66 : decode cX8_sureOne 66 = .ok (.iastore, 1) := by decide +kernel
theorem dX8_sureOne_67 : decode cX8_sureOne 67 = .ok (.iconst 0, 1) := by decide +kernel
theorem dX8_sureOne_68 : decode cX8_sureOne 68 = .ok (.istore_n 2, 1) := by decide +kernel
theorem dX8_sureOne_69 : decode cX8_sureOne 69 = .ok (.iload_n 2, 1) := by decide +kernel
theorem dX8_sureOne_70 : decode cX8_sureOne 70 = .ok (.bipush 8, 2) := by decide +kernel
theorem dX8_sureOne_72 : decode cX8_sureOne 72 = .ok (.if_icmp .ge 27, 3) := by decide +kernel
theorem dX8_sureOne_75 : decode cX8_sureOne 75 = .ok (.aload_n 0, 1) := by decide +kernel
theorem dX8_sureOne_76 : decode cX8_sureOne 76 = .ok (.getfield 28, 3) := by decide +kernel
theorem dX8_sureOne_79 : decode cX8_sureOne 79 = .ok (.iload_n 2, 1) := by decide +kernel
theorem dX8_sureOne_80 : decode cX8_sureOne 80 = .ok (.iconst 3, 1) := by decide +kernel
theorem dX8_sureOne_81 : decode cX8_sureOne 81 = .ok (.invokestatic 132, 3) := by decide +kernel
theorem dX8_sureOne_84 : decode cX8_sureOne 84 = .ok (.dup2, 1) := by decide +kernel
theorem dX8_sureOne_85 : decode cX8_sureOne 85 = .ok (.iaload, 1) := by decide +kernel
theorem dX8_sureOne_86 : decode cX8_sureOne 86 = .ok (.iconst 1, 1) := by decide +kernel
theorem dX8_sureOne_87 : decode cX8_sureOne 87 = .ok (.iload_n 1, 1) := by decide +kernel
theorem dX8_sureOne_88 : decode cX8_sureOne 88 = .ok (.ishl, 1) := by decide +kernel
theorem dX8_sureOne_89 : decode cX8_sureOne 89 = .ok (.iconst (-1), 1) := by decide +kernel
theorem dX8_sureOne_90 : decode cX8_sureOne 90 = .ok (.ixor, 1) := by decide +kernel
theorem dX8_sureOne_91 : decode cX8_sureOne 91 = .ok (.iand, 1) := by decide +kernel
theorem dX8_sureOne_92 : decode cX8_sureOne 92 = .ok (.iastore, 1) := by decide +kernel
theorem dX8_sureOne_93 : decode cX8_sureOne 93 = .ok (.iinc 2 1, 3) := by decide +kernel
theorem dX8_sureOne_96 : decode cX8_sureOne 96 = .ok (.goto (-27), 3) := by decide +kernel
theorem dX8_sureOne_99 : decode cX8_sureOne 99 = .ok (.aload_n 0, 1) := by decide +kernel
theorem dX8_sureOne_100 : decode cX8_sureOne 100 = .ok (.iconst 4, 1) := by decide +kernel
theorem dX8_sureOne_101 : decode cX8_sureOne 101 = .ok (.iload_n 1, 1) := by decide +kernel
theorem dX8_sureOne_102 : decode cX8_sureOne 102 = .ok (.aload_n 0, 1) := by decide +kernel
theorem dX8_sureOne_103 : decode cX8_sureOne 103 = .ok (.iload_n 1, 1) := by decide +kernel
theorem dX8_sureOne_104 : decode cX8_sureOne 104 = .ok (.iconst 1, 1) := by decide +kernel
theorem dX8_sureOne_105 : decode cX8_sureOne 105 = .ok (.invokevirtual 165, 3) := by decide +kernel
theorem dX8_sureOne_108 : decode cX8_sureOne 108 = .ok (.invokevirtual 201, 3) := by decide +kernel
theorem dX8_sureOne_111 : decode cX8_sureOne 111 = .ok (.aload_n 0, 1) := by decide +kernel
theorem dX8_sureOne_112 : decode cX8_sureOne 112 = .ok (.getfield 19, 3) := by decide +kernel
theorem dX8_sureOne_115 : decode cX8_sureOne 115 = .ok (.iconst 1, 1) := by decide +kernel
theorem dX8_sureOne_116 : decode cX8_sureOne 116 = .ok (.iaload, 1) := by decide +kernel
theorem dX8_sureOne_117 : decode cX8_sureOne 117 = .ok (.iconst 1, 1) := by decide +kernel
theorem dX8_sureOne_118 : decode cX8_sureOne 118 = .ok (.if_icmp .ne 8, 3) := by decide +kernel
theorem dX8_sureOne_121 : decode cX8_sureOne 121 = .ok (.aload_n 0, 1) := by decide +kernel
theorem dX8_sureOne_122 : decode cX8_sureOne 122 = .ok (.invokevirtual 214, 3) := by decide +kernel
theorem dX8_sureOne_125 : decode cX8_sureOne 125 = .ok (.pop, 1) := by decide +kernel
theorem dX8_sureOne_126 : decode cX8_sureOne 126 = .ok (.return_, 1) := by decide +kernel
def fM_sureOne_12 (u : Nat) (a1 : Int32) (s1 : Int32 × mS) (s2 : Int32 × mS) : Option ((Int32 × mS) ⊕ (mS)) :=
  (fM_many u s2.2 s1.1).bind fun x3 =>
  if x3 ≤ s2.1 then
    some (.inr s2.2)
  else
    (fM_its u s2.2 s1.1 s2.1 (iz 4)).bind fun x4 =>
    (if x4 = a1 then
       (fM_cell u s1.1 s2.1 (iz 4)).bind fun x5 =>
       (mWr s2.2 7 x5 (iz (-1))).bind fun g6 =>
       some g6
     else
       some s2.2 : Option (mS)).bind fun s7 =>
    some (.inl ((s2.1 + iz 1), s7))
def fM_sureOne_2 (u : Nat) (a1 : Int32) (s1 : Int32 × mS) : Option ((Int32 × mS) ⊕ (mS)) :=
  if (s1.2.1 0 9) ≤ s1.1 then
    some (.inr s1.2)
  else
    (nx_iter u (fM_sureOne_12 u a1 s1) ((iz 0), s1.2)).bind fun e8 =>
    some (.inl ((s1.1 + iz 1), e8))
def fM_sureOne_69 (u : Nat) (a1 : Int32) (s12 : Int32 × mS) : Option ((Int32 × mS) ⊕ (mS)) :=
  if (iz 8) ≤ s12.1 then
    some (.inr s12.2)
  else
    (fM_ofSeat u s12.1 (iz 3)).bind fun x13 =>
    (nx_rd (mlen 7) (s12.2.1 7) x13).bind fun x14 =>
    (mWr s12.2 7 x13 (x14 &&& (((iz 1) <<< (a1 &&& 31)) ^^^ (iz (-1))))).bind fun g15 =>
    some (.inl ((s12.1 + iz 1), g15))
def fM_sureOne (u : Nat) (g : mS) (a1 : Int32) : Option (mS) :=
  (nx_iter u (fM_sureOne_2 u a1) ((iz 0), g)).bind fun e9 =>
  (fM_ofSeat u a1 (iz 0)).bind fun x10 =>
  (mWr e9 7 x10 (iz 3)).bind fun g11 =>
  (nx_iter u (fM_sureOne_69 u a1) ((iz 0), g11)).bind fun e16 =>
  (fM_of u e16 a1 (iz 1)).bind fun x17 =>
  (fM_note u e16 (iz 4) a1 x17).bind fun g18 =>
  (nx_rd (mlen 4) (g18.1 4) (iz 1)).bind fun x19 =>
  if x19 = (iz 1) then
    (fM_pruneNow u g18).bind fun p20 =>
    some p20.2
  else
    some g18
set_option maxRecDepth 4000 in
theorem jM_sureOne_12 {Γ : nx_G} {M0 : nx_M} {m : Nat} (u : Nat) (a1 : Int32) (s1 : Int32 × mS)   (X : nx_X) (Z : nx_Z) (s2 : Int32 × mS) : nx_J Γ X (RX8, cX8_sureOne, 4, none, "sureOne", 7) Z (Sum.elim (fun s2 : Int32 × mS => .inl (12, [some (.ref m), some (.int a1), some (.int s1.1), some (.int s2.1)], [], (mW Γ M0 m s2.2))) (fun e8 : mS => .inl (50, [some (.ref m), some (.int a1), some (.int s1.1), none], [], (mW Γ M0 m e8)))) (.inl (12, [some (.ref m), some (.int a1), some (.int s1.1), some (.int s2.1)], [], (mW Γ M0 m s2.2))) (fM_sureOne_12 u a1 s1 s2) := by
  unfold fM_sureOne_12
  refine nx_iload_n rfl dX8_sureOne_12 rfl ?_
  refine nx_aload_n rfl dX8_sureOne_13 rfl ?_
  refine nx_iload_n rfl dX8_sureOne_14 rfl ?_
  refine nx_callVr [.int s1.1] (fun r => .int r) (fun _ => (mW Γ M0 m s2.2)) cw_8_171 cv_X8_many (fun r e => cM_many X.2.1  e) mW_m rfl rfl (Nat.le_of_ble_eq_true rfl) (Nat.le_of_ble_eq_true rfl) dX8_sureOne_15 rfl (fun x3 => ?_)
  refine nx_icmp_ge (t := 50) dX8_sureOne_18 (by decide) rfl ?_ ?_
  · refine nx_weak (ls' := [some (.ref m), some (.int a1), some (.int s1.1), none]) (nx_wk_s (nx_wk_s (nx_wk_s (nx_wk_n nx_wk_e)))) ?_
    obtain ⟨_, _⟩ := s1
    obtain ⟨_, _⟩ := s2
    exact nx_leaf rfl
  · refine nx_aload_n rfl dX8_sureOne_21 rfl ?_
    refine nx_iload_n rfl dX8_sureOne_22 rfl ?_
    refine nx_iload_n rfl dX8_sureOne_23 rfl ?_
    refine nx_iconst dX8_sureOne_24 rfl ?_
    refine nx_callVr [.int s1.1, .int s2.1, .int (iz 4)] (fun r => .int r) (fun _ => (mW Γ M0 m s2.2)) cw_8_174 cv_X8_its (fun r e => cM_its X.2.1  e) mW_m rfl rfl (Nat.le_of_ble_eq_true rfl) (Nat.le_of_ble_eq_true rfl) dX8_sureOne_25 rfl (fun x4 => ?_)
    refine nx_iload_n rfl dX8_sureOne_28 rfl ?_
    refine nx_seq (C1 := fun s7 : mS => .inl (44, [some (.ref m), some (.int a1), some (.int s1.1), some (.int s2.1)], [], (mW Γ M0 m s7))) ?_ (fun s7 => ?_)
    · refine nx_icmp_ne (t := 44) dX8_sureOne_29 (by decide) rfl ?_ ?_
      · obtain ⟨_, _⟩ := s1
        obtain ⟨_, _⟩ := s2
        exact nx_leaf rfl
      · refine nx_aload_n rfl dX8_sureOne_32 rfl ?_
        refine nx_getf fl_8_28 mW_m rfl dX8_sureOne_33 rfl ?_
        refine nx_iload_n rfl dX8_sureOne_36 rfl ?_
        refine nx_iload_n rfl dX8_sureOne_37 rfl ?_
        refine nx_iconst dX8_sureOne_38 rfl ?_
        refine nx_callSr [.int s1.1, .int s2.1, .int (iz 4)] (fun r => .int r) (fun _ => (mW Γ M0 m s2.2)) cw_8_138 wd_1321 (fun r e => cM_cell X.2.1  e) rfl rfl (Nat.le_of_ble_eq_true rfl) (Nat.le_of_ble_eq_true rfl) dX8_sureOne_39 rfl (fun x5 => ?_)
        refine nx_iconst dX8_sureOne_42 rfl ?_
        refine m_iast 7 ⟨Nat.le_of_ble_eq_true rfl, Nat.le_of_ble_eq_true rfl⟩ dX8_sureOne_43 rfl (fun g6 => ?_)
        obtain ⟨_, _⟩ := s1
        obtain ⟨_, _⟩ := s2
        exact nx_leaf rfl
    refine nx_iinc [some (.ref m), some (.int a1), some (.int s1.1), some (.int (s2.1 + iz 1))] dX8_sureOne_44 rfl rfl (Nat.le_of_ble_eq_true rfl) rfl rfl ?_
    refine nx_goto (q := 12) dX8_sureOne_47 (by decide) ?_
    obtain ⟨_, _⟩ := s1
    obtain ⟨_, _⟩ := s2
    exact nx_leaf rfl
set_option maxRecDepth 4000 in
theorem jM_sureOne_2 {Γ : nx_G} {M0 : nx_M} {m : Nat} (u : Nat) (a1 : Int32)   (X : nx_X) (Z : nx_Z) (s1 : Int32 × mS) : nx_J Γ X (RX8, cX8_sureOne, 4, none, "sureOne", 7) Z (Sum.elim (fun s1 : Int32 × mS => .inl (2, [some (.ref m), some (.int a1), some (.int s1.1), none], [], (mW Γ M0 m s1.2))) (fun e9 : mS => .inl (56, [some (.ref m), some (.int a1), none, none], [], (mW Γ M0 m e9)))) (.inl (2, [some (.ref m), some (.int a1), some (.int s1.1), none], [], (mW Γ M0 m s1.2))) (fM_sureOne_2 u a1 s1) := by
  unfold fM_sureOne_2
  refine nx_iload_n rfl dX8_sureOne_2 rfl ?_
  refine nx_aload_n rfl dX8_sureOne_3 rfl ?_
  refine nx_getf fl_8_142 mW_m rfl dX8_sureOne_4 rfl ?_
  refine nx_icmp_ge (t := 56) dX8_sureOne_7 (by decide) rfl ?_ ?_
  · refine nx_weak (ls' := [some (.ref m), some (.int a1), none, none]) (nx_wk_s (nx_wk_s (nx_wk_n (nx_wk_n nx_wk_e)))) ?_
    obtain ⟨_, _⟩ := s1
    exact nx_leaf rfl
  · refine nx_iconst dX8_sureOne_10 rfl ?_
    refine nx_istore_n [some (.ref m), some (.int a1), some (.int s1.1), some (.int (iz 0))] dX8_sureOne_11 rfl (Nat.le_of_ble_eq_true rfl) rfl rfl ?_
    refine nx_seq (C1 := fun e8 : mS => .inl (50, [some (.ref m), some (.int a1), some (.int s1.1), none], [], (mW Γ M0 m e8))) (nx_loop (C1 := fun s2 : Int32 × mS => .inl (12, [some (.ref m), some (.int a1), some (.int s1.1), some (.int s2.1)], [], (mW Γ M0 m s2.2))) (fun s2 => jM_sureOne_12  u a1 s1 X Z s2) ((iz 0), s1.2)) (fun e8 => ?_)
    refine nx_iinc [some (.ref m), some (.int a1), some (.int (s1.1 + iz 1)), none] dX8_sureOne_50 rfl rfl (Nat.le_of_ble_eq_true rfl) rfl rfl ?_
    refine nx_goto (q := 2) dX8_sureOne_53 (by decide) ?_
    obtain ⟨_, _⟩ := s1
    exact nx_leaf rfl
set_option maxRecDepth 4000 in
theorem jM_sureOne_69 {Γ : nx_G} {M0 : nx_M} {m : Nat} (u : Nat) (a1 : Int32)   (X : nx_X) (Z : nx_Z) (s12 : Int32 × mS) : nx_J Γ X (RX8, cX8_sureOne, 4, none, "sureOne", 7) Z (Sum.elim (fun s12 : Int32 × mS => .inl (69, [some (.ref m), some (.int a1), some (.int s12.1), none], [], (mW Γ M0 m s12.2))) (fun e16 : mS => .inl (99, [some (.ref m), some (.int a1), none, none], [], (mW Γ M0 m e16)))) (.inl (69, [some (.ref m), some (.int a1), some (.int s12.1), none], [], (mW Γ M0 m s12.2))) (fM_sureOne_69 u a1 s12) := by
  unfold fM_sureOne_69
  refine nx_iload_n rfl dX8_sureOne_69 rfl ?_
  refine nx_bipush (by decide +kernel) dX8_sureOne_70 rfl ?_
  refine nx_icmp_ge (t := 99) dX8_sureOne_72 (by decide) rfl ?_ ?_
  · refine nx_weak (ls' := [some (.ref m), some (.int a1), none, none]) (nx_wk_s (nx_wk_s (nx_wk_n (nx_wk_n nx_wk_e)))) ?_
    obtain ⟨_, _⟩ := s12
    exact nx_leaf rfl
  · refine nx_aload_n rfl dX8_sureOne_75 rfl ?_
    refine nx_getf fl_8_28 mW_m rfl dX8_sureOne_76 rfl ?_
    refine nx_iload_n rfl dX8_sureOne_79 rfl ?_
    refine nx_iconst dX8_sureOne_80 rfl ?_
    refine nx_callSr [.int s12.1, .int (iz 3)] (fun r => .int r) (fun _ => (mW Γ M0 m s12.2)) cw_8_132 wd_1348 (fun r e => cM_ofSeat X.2.1  e) rfl rfl (Nat.le_of_ble_eq_true rfl) (Nat.le_of_ble_eq_true rfl) dX8_sureOne_81 rfl (fun x13 => ?_)
    refine nx_dup2 rfl rfl dX8_sureOne_84 rfl ?_
    refine m_iald 7 ⟨Nat.le_of_ble_eq_true rfl, Nat.le_of_ble_eq_true rfl⟩ dX8_sureOne_85 rfl (fun x14 => ?_)
    refine nx_iconst dX8_sureOne_86 rfl ?_
    refine nx_iload_n rfl dX8_sureOne_87 rfl ?_
    refine nx_ishl dX8_sureOne_88 rfl ?_
    refine nx_iconst dX8_sureOne_89 rfl ?_
    refine nx_ixor dX8_sureOne_90 rfl ?_
    refine nx_iand dX8_sureOne_91 rfl ?_
    refine m_iast 7 ⟨Nat.le_of_ble_eq_true rfl, Nat.le_of_ble_eq_true rfl⟩ dX8_sureOne_92 rfl (fun g15 => ?_)
    refine nx_iinc [some (.ref m), some (.int a1), some (.int (s12.1 + iz 1)), none] dX8_sureOne_93 rfl rfl (Nat.le_of_ble_eq_true rfl) rfl rfl ?_
    refine nx_goto (q := 69) dX8_sureOne_96 (by decide) ?_
    obtain ⟨_, _⟩ := s12
    exact nx_leaf rfl
set_option maxRecDepth 4000 in
theorem jM_sureOne {Γ : nx_G} {M0 : nx_M} {m : Nat} (u : Nat) (g : mS) (a1 : Int32)   (X : nx_X) (Z : nx_Z) : nx_J Γ X (RX8, cX8_sureOne, 4, none, "sureOne", 7) Z (fun r0 : mS => .inr (none, (mW Γ M0 m r0))) (.inl (0, [some (.ref m), some (.int a1), none, none], [], (mW Γ M0 m g))) (fM_sureOne u g a1) := by
  unfold fM_sureOne
  refine nx_iconst dX8_sureOne_0 rfl ?_
  refine nx_istore_n [some (.ref m), some (.int a1), some (.int (iz 0)), none] dX8_sureOne_1 rfl (Nat.le_of_ble_eq_true rfl) rfl rfl ?_
  refine nx_seq (C1 := fun e9 : mS => .inl (56, [some (.ref m), some (.int a1), none, none], [], (mW Γ M0 m e9))) (nx_loop (C1 := fun s1 : Int32 × mS => .inl (2, [some (.ref m), some (.int a1), some (.int s1.1), none], [], (mW Γ M0 m s1.2))) (fun s1 => jM_sureOne_2  u a1 X Z s1) ((iz 0), g)) (fun e9 => ?_)
  refine nx_aload_n rfl dX8_sureOne_56 rfl ?_
  refine nx_getf fl_8_28 mW_m rfl dX8_sureOne_57 rfl ?_
  refine nx_iload_n rfl dX8_sureOne_60 rfl ?_
  refine nx_iconst dX8_sureOne_61 rfl ?_
  refine nx_callSr [.int a1, .int (iz 0)] (fun r => .int r) (fun _ => (mW Γ M0 m e9)) cw_8_132 wd_1348 (fun r e => cM_ofSeat X.2.1  e) rfl rfl (Nat.le_of_ble_eq_true rfl) (Nat.le_of_ble_eq_true rfl) dX8_sureOne_62 rfl (fun x10 => ?_)
  refine nx_iconst dX8_sureOne_65 rfl ?_
  refine m_iast 7 ⟨Nat.le_of_ble_eq_true rfl, Nat.le_of_ble_eq_true rfl⟩ dX8_sureOne_66 rfl (fun g11 => ?_)
  refine nx_iconst dX8_sureOne_67 rfl ?_
  refine nx_istore_n [some (.ref m), some (.int a1), some (.int (iz 0)), none] dX8_sureOne_68 rfl (Nat.le_of_ble_eq_true rfl) rfl rfl ?_
  refine nx_seq (C1 := fun e16 : mS => .inl (99, [some (.ref m), some (.int a1), none, none], [], (mW Γ M0 m e16))) (nx_loop (C1 := fun s12 : Int32 × mS => .inl (69, [some (.ref m), some (.int a1), some (.int s12.1), none], [], (mW Γ M0 m s12.2))) (fun s12 => jM_sureOne_69  u a1 X Z s12) ((iz 0), g11)) (fun e16 => ?_)
  refine nx_aload_n rfl dX8_sureOne_99 rfl ?_
  refine nx_iconst dX8_sureOne_100 rfl ?_
  refine nx_iload_n rfl dX8_sureOne_101 rfl ?_
  refine nx_aload_n rfl dX8_sureOne_102 rfl ?_
  refine nx_iload_n rfl dX8_sureOne_103 rfl ?_
  refine nx_iconst dX8_sureOne_104 rfl ?_
  refine nx_callVr [.int a1, .int (iz 1)] (fun r => .int r) (fun _ => (mW Γ M0 m e16)) cw_8_165 cv_X8_of (fun r e => cM_of X.2.1  e) mW_m rfl rfl (Nat.le_of_ble_eq_true rfl) (Nat.le_of_ble_eq_true rfl) dX8_sureOne_105 rfl (fun x17 => ?_)
  refine nx_callVv [.int (iz 4), .int a1, .int x17] (fun r => (mW Γ M0 m r)) cw_8_201 cv_X8_note (fun r e => cM_note X.2.1  e) mW_m rfl rfl (Nat.le_of_ble_eq_true rfl) (Nat.le_of_ble_eq_true rfl) dX8_sureOne_108 rfl (fun g18 => ?_)
  refine nx_aload_n rfl dX8_sureOne_111 rfl ?_
  refine nx_getf fl_8_19 mW_m rfl dX8_sureOne_112 rfl ?_
  refine nx_iconst dX8_sureOne_115 rfl ?_
  refine m_iald 4 ⟨Nat.le_of_ble_eq_true rfl, Nat.le_of_ble_eq_true rfl⟩ dX8_sureOne_116 rfl (fun x19 => ?_)
  refine nx_iconst dX8_sureOne_117 rfl ?_
  refine nx_icmp_ne (t := 126) dX8_sureOne_118 (by decide) rfl ?_ ?_
  · exact nx_vret dX8_sureOne_126 rfl rfl
  · refine nx_aload_n rfl dX8_sureOne_121 rfl ?_
    refine nx_callVr [] (fun r => .int r.1) (fun r => (mW Γ M0 m r.2)) cw_8_214 cv_X8_pruneNow (fun r e => cM_pruneNow X.2.1  e) mW_m rfl rfl (Nat.le_of_ble_eq_true rfl) (Nat.le_of_ble_eq_true rfl) dX8_sureOne_122 rfl (fun p20 => ?_)
    refine nx_pop rfl dX8_sureOne_125 rfl ?_
    exact nx_vret dX8_sureOne_126 rfl rfl
theorem cM_sureOne (l : Launch) {Γ : nx_G} {M0 : nx_M} {m : Nat} {u : Nat} {g : mS} {a1 : Int32} {r : mS}  (h : fM_sureOne u g a1 = some r) : nx_Ct l Γ 7 yX8_sureOne cX8_sureOne 4 none [.ref m, .int a1] (mW Γ M0 m g) (none, (mW Γ M0 m r)) :=
  nx_ct (out := fun r0 : mS => (none, (mW Γ M0 m r0))) [some (.ref m), some (.int a1), none, none] pn_RX8 h (Nat.le_of_ble_eq_true rfl) rfl (fun X Z _ => jM_sureOne  u g a1 X Z)
theorem dX8_beSure_0 : decode cX8_beSure 0 = .ok (.aload_n 0, 1) := by decide +kernel
theorem dX8_beSure_1 : decode cX8_beSure 1 = .ok (.iload_n 1, 1) := by decide +kernel
theorem dX8_beSure_2 : decode cX8_beSure 2 = .ok (.invokevirtual 217, 3) := by decide +kernel
theorem dX8_beSure_5 : decode cX8_beSure 5 = .ok (.aload_n 0, 1) := by decide +kernel
theorem dX8_beSure_6 : decode cX8_beSure 6 = .ok (.invokevirtual 220, 3) := by decide +kernel
theorem dX8_beSure_9 : decode cX8_beSure 9 = .ok (.istore_n 2, 1) := by decide +kernel
theorem dX8_beSure_10 : decode cX8_beSure 10 = .ok (.iload_n 2, 1) := by decide +kernel
theorem dX8_beSure_11 : decode cX8_beSure 11 = .ok (.iconst (-1), 1) := by decide +kernel
theorem dX8_beSure_12 : decode cX8_beSure 12 = .ok (.if_icmp .eq 35, 3) := by decide +kernel
theorem dX8_beSure_15 : decode cX8_beSure 15 = .ok (.aload_n 0, 1) := by decide +kernel
theorem dX8_beSure_16 : decode cX8_beSure 16 = .ok (.iload_n 2, 1) := by decide +kernel
theorem dX8_beSure_17 : decode cX8_beSure 17 = .ok (.iconst 4, 1) := by decide +kernel
theorem dX8_beSure_18 : decode cX8_beSure 18 = .ok (.invokevirtual 165, 3) := by decide +kernel
theorem dX8_beSure_21 : decode cX8_beSure 21 = .ok (.iconst 1, 1) := by decide +kernel
theorem dX8_beSure_22 : decode cX8_beSure 22 = .ok (.if_icmp .ne 12, 3) := by decide +kernel
theorem dX8_beSure_25 : decode cX8_beSure 25 = .ok (.aload_n 0, 1) := by decide +kernel
theorem dX8_beSure_26 : decode cX8_beSure 26 = .ok (.iload_n 2, 1) := by decide +kernel
theorem dX8_beSure_27 : decode cX8_beSure 27 = .ok (.invokevirtual 223, 3) := by decide +kernel
theorem dX8_beSure_30 : decode cX8_beSure 30 = .ok (.pop, 1) := by decide +kernel
theorem dX8_beSure_31 : decode cX8_beSure 31 = .ok (.goto 8, 3) := by decide +kernel
theorem dX8_beSure_34 : decode cX8_beSure 34 = .ok (.aload_n 0, 1) := by decide +kernel
theorem dX8_beSure_35 : decode cX8_beSure 35 = .ok (.iload_n 2, 1) := by decide +kernel
theorem dX8_beSure_36 : decode cX8_beSure 36 = .ok (.invokevirtual 217, 3) := by decide +kernel
theorem dX8_beSure_39 : decode cX8_beSure 39 = .ok (.aload_n 0, 1) := by decide +kernel
theorem dX8_beSure_40 : decode cX8_beSure 40 = .ok (.invokevirtual 220, 3) := by decide +kernel
theorem dX8_beSure_43 : decode cX8_beSure 43 = .ok (.istore_n 2, 1) := by decide +kernel
theorem dX8_beSure_44 : decode cX8_beSure 44 = .ok (.goto (-34), 3) := by decide +kernel
theorem dX8_beSure_47 : decode cX8_beSure 47 = .ok (.return_, 1) := by decide +kernel
def fM_beSure_10 (u : Nat) (s3 : Int32 × mS) : Option ((Int32 × mS) ⊕ (mS)) :=
  if s3.1 = (iz (-1)) then
    some (.inr s3.2)
  else
    (fM_of u s3.2 s3.1 (iz 4)).bind fun x4 =>
    (if x4 = (iz 1) then
       (fM_fall u s3.2 s3.1).bind fun p6 =>
       some p6.2
     else
       (fM_sureOne u s3.2 s3.1).bind fun g5 =>
       some g5 : Option (mS)).bind fun s7 =>
    (fM_lowestFree u s7).bind fun x8 =>
    some (.inl (x8, s7))
def fM_beSure (u : Nat) (g : mS) (a1 : Int32) : Option (mS) :=
  (fM_sureOne u g a1).bind fun g1 =>
  (fM_lowestFree u g1).bind fun x2 =>
  (nx_iter u (fM_beSure_10 u) (x2, g1)).bind fun e9 =>
  some e9
set_option maxRecDepth 4000 in
theorem jM_beSure_10 {Γ : nx_G} {M0 : nx_M} {m : Nat} (u : Nat) (a1 : Int32)   (X : nx_X) (Z : nx_Z) (s3 : Int32 × mS) : nx_J Γ X (RX8, cX8_beSure, 3, none, "beSure", 8) Z (Sum.elim (fun s3 : Int32 × mS => .inl (10, [some (.ref m), some (.int a1), some (.int s3.1)], [], (mW Γ M0 m s3.2))) (fun e9 : mS => .inl (47, [some (.ref m), some (.int a1), none], [], (mW Γ M0 m e9)))) (.inl (10, [some (.ref m), some (.int a1), some (.int s3.1)], [], (mW Γ M0 m s3.2))) (fM_beSure_10 u s3) := by
  unfold fM_beSure_10
  refine nx_iload_n rfl dX8_beSure_10 rfl ?_
  refine nx_iconst dX8_beSure_11 rfl ?_
  refine nx_icmp_eq (t := 47) dX8_beSure_12 (by decide) rfl ?_ ?_
  · refine nx_weak (ls' := [some (.ref m), some (.int a1), none]) (nx_wk_s (nx_wk_s (nx_wk_n nx_wk_e))) ?_
    obtain ⟨_, _⟩ := s3
    exact nx_leaf rfl
  · refine nx_aload_n rfl dX8_beSure_15 rfl ?_
    refine nx_iload_n rfl dX8_beSure_16 rfl ?_
    refine nx_iconst dX8_beSure_17 rfl ?_
    refine nx_callVr [.int s3.1, .int (iz 4)] (fun r => .int r) (fun _ => (mW Γ M0 m s3.2)) cw_8_165 cv_X8_of (fun r e => cM_of X.2.1  e) mW_m rfl rfl (Nat.le_of_ble_eq_true rfl) (Nat.le_of_ble_eq_true rfl) dX8_beSure_18 rfl (fun x4 => ?_)
    refine nx_iconst dX8_beSure_21 rfl ?_
    refine nx_seq (C1 := fun s7 : mS => .inl (39, [some (.ref m), some (.int a1), some (.int s3.1)], [], (mW Γ M0 m s7))) ?_ (fun s7 => ?_)
    · refine nx_icmp_ne (t := 34) dX8_beSure_22 (by decide) rfl ?_ ?_
      · refine nx_aload_n rfl dX8_beSure_34 rfl ?_
        refine nx_iload_n rfl dX8_beSure_35 rfl ?_
        refine nx_callVv [.int s3.1] (fun r => (mW Γ M0 m r)) cw_8_217 cv_X8_sureOne (fun r e => cM_sureOne X.2.1  e) mW_m rfl rfl (Nat.le_of_ble_eq_true rfl) (Nat.le_of_ble_eq_true rfl) dX8_beSure_36 rfl (fun g5 => ?_)
        obtain ⟨_, _⟩ := s3
        exact nx_leaf rfl
      · refine nx_aload_n rfl dX8_beSure_25 rfl ?_
        refine nx_iload_n rfl dX8_beSure_26 rfl ?_
        refine nx_callVr [.int s3.1] (fun r => .int r.1) (fun r => (mW Γ M0 m r.2)) cw_8_223 cv_X8_fall (fun r e => cM_fall X.2.1  e) mW_m rfl rfl (Nat.le_of_ble_eq_true rfl) (Nat.le_of_ble_eq_true rfl) dX8_beSure_27 rfl (fun p6 => ?_)
        refine nx_pop rfl dX8_beSure_30 rfl ?_
        refine nx_goto (q := 39) dX8_beSure_31 (by decide) ?_
        obtain ⟨_, _⟩ := s3
        obtain ⟨_, _⟩ := p6
        exact nx_leaf rfl
    refine nx_aload_n rfl dX8_beSure_39 rfl ?_
    refine nx_callVr [] (fun r => .int r) (fun _ => (mW Γ M0 m s7)) cw_8_220 cv_X8_lowestFree (fun r e => cM_lowestFree X.2.1  e) mW_m rfl rfl (Nat.le_of_ble_eq_true rfl) (Nat.le_of_ble_eq_true rfl) dX8_beSure_40 rfl (fun x8 => ?_)
    refine nx_istore_n [some (.ref m), some (.int a1), some (.int x8)] dX8_beSure_43 rfl (Nat.le_of_ble_eq_true rfl) rfl rfl ?_
    refine nx_goto (q := 10) dX8_beSure_44 (by decide) ?_
    exact nx_leaf rfl
set_option maxRecDepth 4000 in
theorem jM_beSure {Γ : nx_G} {M0 : nx_M} {m : Nat} (u : Nat) (g : mS) (a1 : Int32)   (X : nx_X) (Z : nx_Z) : nx_J Γ X (RX8, cX8_beSure, 3, none, "beSure", 8) Z (fun r0 : mS => .inr (none, (mW Γ M0 m r0))) (.inl (0, [some (.ref m), some (.int a1), none], [], (mW Γ M0 m g))) (fM_beSure u g a1) := by
  unfold fM_beSure
  refine nx_aload_n rfl dX8_beSure_0 rfl ?_
  refine nx_iload_n rfl dX8_beSure_1 rfl ?_
  refine nx_callVv [.int a1] (fun r => (mW Γ M0 m r)) cw_8_217 cv_X8_sureOne (fun r e => cM_sureOne X.2.1  e) mW_m rfl rfl (Nat.le_of_ble_eq_true rfl) (Nat.le_of_ble_eq_true rfl) dX8_beSure_2 rfl (fun g1 => ?_)
  refine nx_aload_n rfl dX8_beSure_5 rfl ?_
  refine nx_callVr [] (fun r => .int r) (fun _ => (mW Γ M0 m g1)) cw_8_220 cv_X8_lowestFree (fun r e => cM_lowestFree X.2.1  e) mW_m rfl rfl (Nat.le_of_ble_eq_true rfl) (Nat.le_of_ble_eq_true rfl) dX8_beSure_6 rfl (fun x2 => ?_)
  refine nx_istore_n [some (.ref m), some (.int a1), some (.int x2)] dX8_beSure_9 rfl (Nat.le_of_ble_eq_true rfl) rfl rfl ?_
  refine nx_seq (C1 := fun e9 : mS => .inl (47, [some (.ref m), some (.int a1), none], [], (mW Γ M0 m e9))) (nx_loop (C1 := fun s3 : Int32 × mS => .inl (10, [some (.ref m), some (.int a1), some (.int s3.1)], [], (mW Γ M0 m s3.2))) (fun s3 => jM_beSure_10  u a1 X Z s3) (x2, g1)) (fun e9 => ?_)
  exact nx_vret dX8_beSure_47 rfl rfl
theorem cM_beSure (l : Launch) {Γ : nx_G} {M0 : nx_M} {m : Nat} {u : Nat} {g : mS} {a1 : Int32} {r : mS}  (h : fM_beSure u g a1 = some r) : nx_Ct l Γ 8 yX8_beSure cX8_beSure 3 none [.ref m, .int a1] (mW Γ M0 m g) (none, (mW Γ M0 m r)) :=
  nx_ct (out := fun r0 : mS => (none, (mW Γ M0 m r0))) [some (.ref m), some (.int a1), none] pn_RX8 h (Nat.le_of_ble_eq_true rfl) rfl (fun X Z _ => jM_beSure  u g a1 X Z)
theorem dX8_whyOpen_0 : decode cX8_whyOpen 0 = .ok (.aload_n 0, 1) := by decide +kernel
theorem dX8_whyOpen_1 : decode cX8_whyOpen 1 = .ok (.iload_n 1, 1) := by decide +kernel
theorem dX8_whyOpen_2 : decode cX8_whyOpen 2 = .ok (.invokevirtual 162, 3) := by decide +kernel
theorem dX8_whyOpen_5 : decode cX8_whyOpen 5 = .ok (.ifCond .ne 7, 3) := by decide +kernel
theorem dX8_whyOpen_8 : decode cX8_whyOpen 8 = .ok (.iconst 0, 1) := by decide +kernel
theorem dX8_whyOpen_9 : decode cX8_whyOpen 9 = .ok (.goto 54, 3) := by decide +kernel
theorem dX8_whyOpen_12 : decode cX8_whyOpen 12 = .ok (.iload_n 2, 1) := by decide +kernel
theorem dX8_whyOpen_13 : decode cX8_whyOpen 13 = .ok (.iconst 0, 1) := by decide +kernel
theorem dX8_whyOpen_14 : decode cX8_whyOpen 14 = .ok (.iconst 1, 1) := by decide +kernel
theorem dX8_whyOpen_15 : decode cX8_whyOpen 15 = .ok (.invokestatic 61, 3) := by decide +kernel
theorem dX8_whyOpen_18 : decode cX8_whyOpen 18 = .ok (.ifCond .ne 7, 3) := by decide +kernel
theorem dX8_whyOpen_21 : decode cX8_whyOpen 21 = .ok (.iconst 1, 1) := by decide +kernel
theorem dX8_whyOpen_22 : decode cX8_whyOpen 22 = .ok (.goto 41, 3) := by decide +kernel
theorem dX8_whyOpen_25 : decode cX8_whyOpen 25 = .ok (.aload_n 0, 1) := by decide +kernel
theorem dX8_whyOpen_26 : decode cX8_whyOpen 26 = .ok (.iload_n 1, 1) := by decide +kernel
theorem dX8_whyOpen_27 : decode cX8_whyOpen 27 = .ok (.invokevirtual 180, 3) := by decide +kernel
theorem dX8_whyOpen_30 : decode cX8_whyOpen 30 = .ok (.ifCond .eq 7, 3) := by decide +kernel
theorem dX8_whyOpen_33 : decode cX8_whyOpen 33 = .ok (.iconst 2, 1) := by decide +kernel
theorem dX8_whyOpen_34 : decode cX8_whyOpen 34 = .ok (.goto 29, 3) := by decide +kernel
theorem dX8_whyOpen_37 : decode cX8_whyOpen 37 = .ok (.aload_n 0, 1) := by decide +kernel
theorem dX8_whyOpen_38 : decode cX8_whyOpen 38 = .ok (.getfield 28, 3) := by decide +kernel
theorem dX8_whyOpen_41 : decode cX8_whyOpen 41 = .ok (.sipush 606, 3) := by decide +kernel
theorem dX8_whyOpen_44 : decode cX8_whyOpen 44 = .ok (.iaload, 1) := by decide +kernel
theorem dX8_whyOpen_45 : decode cX8_whyOpen 45 = .ok (.aload_n 0, 1) := by decide +kernel
theorem dX8_whyOpen_46 : decode cX8_whyOpen 46 = .ok (.getfield 19, 3) := by decide +kernel
theorem dX8_whyOpen_49 : decode cX8_whyOpen 49 = .ok (.iconst 2, 1) := by decide +kernel
theorem dX8_whyOpen_50 : decode cX8_whyOpen 50 = .ok (.iaload, 1) := by decide +kernel
theorem dX8_whyOpen_51 : decode cX8_whyOpen 51 = .ok (.iadd, 1) := by decide +kernel
theorem dX8_whyOpen_52 : decode cX8_whyOpen 52 = .ok (.sipush 9999, 3) := by decide +kernel
theorem dX8_whyOpen_55 : decode cX8_whyOpen 55 = .ok (.if_icmp .le 7, 3) := by decide +kernel
theorem dX8_whyOpen_58 : decode cX8_whyOpen 58 = .ok (.iconst 3, 1) := by decide +kernel
theorem dX8_whyOpen_59 : decode cX8_whyOpen 59 = .ok (.goto 4, 3) := by decide +kernel
theorem dX8_whyOpen_62 : decode cX8_whyOpen 62 = .ok (.iconst (-1), 1) := by decide +kernel
theorem dX8_whyOpen_63 : decode cX8_whyOpen 63 = .ok (.ireturn, 1) := by decide +kernel
def fM_whyOpen (u : Nat) (g : mS) (a1 : Int32) (a2 : Int32) : Option (Int32) :=
  (fM_isSeat u g a1).bind fun b1 =>
  if b1 = true then
    (fM_in u a2 (iz 0) (iz 1)).bind fun b2 =>
    if b2 = true then
      (fM_isOn u g a1).bind fun b3 =>
      if b3 = true then
        some (iz 2)
      else
        (nx_rd (mlen 7) (g.1 7) (iz 606)).bind fun x4 =>
        (nx_rd (mlen 4) (g.1 4) (iz 2)).bind fun x5 =>
        if (x4 + x5) ≤ (iz 9999) then
          some (iz (-1))
        else
          some (iz 3)
    else
      some (iz 1)
  else
    some (iz 0)
set_option maxRecDepth 4000 in
theorem jM_whyOpen {Γ : nx_G} {M0 : nx_M} {m : Nat} (u : Nat) (g : mS) (a1 : Int32) (a2 : Int32)   (X : nx_X) (Z : nx_Z) : nx_J Γ X (RX8, cX8_whyOpen, 3, (some .int), "whyOpen", 4) Z (fun r0 : Int32 => .inr (some (.int r0), (mW Γ M0 m g))) (.inl (0, [some (.ref m), some (.int a1), some (.int a2)], [], (mW Γ M0 m g))) (fM_whyOpen u g a1 a2) := by
  unfold fM_whyOpen
  refine nx_aload_n rfl dX8_whyOpen_0 rfl ?_
  refine nx_iload_n rfl dX8_whyOpen_1 rfl ?_
  refine nx_callVr [.int a1] (fun r => .int (bz r)) (fun _ => (mW Γ M0 m g)) cw_8_162 cv_X8_isSeat (fun r e => cM_isSeat X.2.1  e) mW_m rfl rfl (Nat.le_of_ble_eq_true rfl) (Nat.le_of_ble_eq_true rfl) dX8_whyOpen_2 rfl (fun b1 => ?_)
  refine nx_ifz_ne (t := 12) dX8_whyOpen_5 (by decide) rfl ?_ ?_
  · refine nx_iload_n rfl dX8_whyOpen_12 rfl ?_
    refine nx_iconst dX8_whyOpen_13 rfl ?_
    refine nx_iconst dX8_whyOpen_14 rfl ?_
    refine nx_callSr [.int a2, .int (iz 0), .int (iz 1)] (fun r => .int (bz r)) (fun _ => (mW Γ M0 m g)) cw_8_61 wd_1243 (fun r e => cM_in X.2.1  e) rfl rfl (Nat.le_of_ble_eq_true rfl) (Nat.le_of_ble_eq_true rfl) dX8_whyOpen_15 rfl (fun b2 => ?_)
    refine nx_ifz_ne (t := 25) dX8_whyOpen_18 (by decide) rfl ?_ ?_
    · refine nx_aload_n rfl dX8_whyOpen_25 rfl ?_
      refine nx_iload_n rfl dX8_whyOpen_26 rfl ?_
      refine nx_callVr [.int a1] (fun r => .int (bz r)) (fun _ => (mW Γ M0 m g)) cw_8_180 cv_X8_isOn (fun r e => cM_isOn X.2.1  e) mW_m rfl rfl (Nat.le_of_ble_eq_true rfl) (Nat.le_of_ble_eq_true rfl) dX8_whyOpen_27 rfl (fun b3 => ?_)
      refine nx_ifz_eq (t := 37) dX8_whyOpen_30 (by decide) rfl ?_ ?_
      · refine nx_aload_n rfl dX8_whyOpen_37 rfl ?_
        refine nx_getf fl_8_28 mW_m rfl dX8_whyOpen_38 rfl ?_
        refine nx_sipush (by decide +kernel) dX8_whyOpen_41 rfl ?_
        refine m_iald 7 ⟨Nat.le_of_ble_eq_true rfl, Nat.le_of_ble_eq_true rfl⟩ dX8_whyOpen_44 rfl (fun x4 => ?_)
        refine nx_aload_n rfl dX8_whyOpen_45 rfl ?_
        refine nx_getf fl_8_19 mW_m rfl dX8_whyOpen_46 rfl ?_
        refine nx_iconst dX8_whyOpen_49 rfl ?_
        refine m_iald 4 ⟨Nat.le_of_ble_eq_true rfl, Nat.le_of_ble_eq_true rfl⟩ dX8_whyOpen_50 rfl (fun x5 => ?_)
        refine nx_iadd dX8_whyOpen_51 rfl ?_
        refine nx_sipush (by decide +kernel) dX8_whyOpen_52 rfl ?_
        refine nx_icmp_le (t := 62) dX8_whyOpen_55 (by decide) rfl ?_ ?_
        · refine nx_iconst dX8_whyOpen_62 rfl ?_
          exact nx_iret dX8_whyOpen_63 rfl rfl
        · refine nx_iconst dX8_whyOpen_58 rfl ?_
          refine nx_goto (q := 63) dX8_whyOpen_59 (by decide) ?_
          exact nx_iret dX8_whyOpen_63 rfl rfl
      · refine nx_iconst dX8_whyOpen_33 rfl ?_
        refine nx_goto (q := 63) dX8_whyOpen_34 (by decide) ?_
        exact nx_iret dX8_whyOpen_63 rfl rfl
    · refine nx_iconst dX8_whyOpen_21 rfl ?_
      refine nx_goto (q := 63) dX8_whyOpen_22 (by decide) ?_
      exact nx_iret dX8_whyOpen_63 rfl rfl
  · refine nx_iconst dX8_whyOpen_8 rfl ?_
    refine nx_goto (q := 63) dX8_whyOpen_9 (by decide) ?_
    exact nx_iret dX8_whyOpen_63 rfl rfl
theorem cM_whyOpen (l : Launch) {Γ : nx_G} {M0 : nx_M} {m : Nat} {u : Nat} {g : mS} {a1 : Int32} {a2 : Int32} {r : Int32}  (h : fM_whyOpen u g a1 a2 = some r) : nx_Ct l Γ 4 yX8_whyOpen cX8_whyOpen 3 (some .int) [.ref m, .int a1, .int a2] (mW Γ M0 m g) (some (.int r), (mW Γ M0 m g)) :=
  nx_ct (out := fun r0 : Int32 => (some (.int r0), (mW Γ M0 m g))) [some (.ref m), some (.int a1), some (.int a2)] pn_RX8 h (Nat.le_of_ble_eq_true rfl) rfl (fun X Z _ => jM_whyOpen  u g a1 a2 X Z)
theorem dX8_isHanded_0 : decode cX8_isHanded 0 = .ok (.iconst 0, 1) := by decide +kernel
theorem dX8_isHanded_1 : decode cX8_isHanded 1 = .ok (.istore_n 2, 1) := by decide +kernel
theorem dX8_isHanded_2 : decode cX8_isHanded 2 = .ok (.iconst 1, 1) := by decide +kernel
theorem dX8_isHanded_3 : decode cX8_isHanded 3 = .ok (.istore_n 3, 1) := by decide +kernel
theorem dX8_isHanded_4 : decode cX8_isHanded 4 = .ok (.iload_n 3, 1) := by decide +kernel
theorem dX8_isHanded_5 : decode cX8_isHanded 5 = .ok (.aload_n 0, 1) := by decide +kernel
theorem dX8_isHanded_6 : decode cX8_isHanded 6 = .ok (.getfield 28, 3) := by decide +kernel
theorem dX8_isHanded_9 : decode cX8_isHanded 9 = .ok (.sipush 608, 3) := by decide +kernel
theorem dX8_isHanded_12 : decode cX8_isHanded 12 = .ok (.iaload, 1) := by decide +kernel
theorem dX8_isHanded_13 : decode cX8_isHanded 13 = .ok (.if_icmp .gt 33, 3) := by decide +kernel
theorem dX8_isHanded_16 : decode cX8_isHanded 16 = .ok (.iload_n 2, 1) := by decide +kernel
theorem dX8_isHanded_17 : decode cX8_isHanded 17 = .ok (.ifCond .ne 17, 3) := by decide +kernel
theorem dX8_isHanded_20 : decode cX8_isHanded 20 = .ok (.aload_n 0, 1) := by decide +kernel
theorem dX8_isHanded_21 : decode cX8_isHanded 21 = .ok (.getfield 28, 3) := by decide +kernel
theorem dX8_isHanded_24 : decode cX8_isHanded 24 = .ok (.sipush 608, 3) := by decide +kernel
theorem dX8_isHanded_27 : decode cX8_isHanded 27 = .ok (.iload_n 3, 1) := by decide +kernel
theorem dX8_isHanded_28 : decode cX8_isHanded 28 = .ok (.iadd, 1) := by decide +kernel
theorem dX8_isHanded_29 : decode cX8_isHanded 29 = .ok (.iaload, 1) := by decide +kernel
theorem dX8_isHanded_30 : decode cX8_isHanded 30 = .ok (.iload_n 1, 1) := by decide +kernel
theorem dX8_isHanded_31 : decode cX8_isHanded 31 = .ok (.if_icmp .ne 7, 3) := by decide +kernel
theorem dX8_isHanded_34 : decode cX8_isHanded 34 = .ok (.iconst 1, 1) := by decide +kernel
theorem dX8_isHanded_35 : decode cX8_isHanded 35 = .ok (.goto 4, 3) := by decide +kernel
theorem dX8_isHanded_38 : decode cX8_isHanded 38 = .ok (.iconst 0, 1) := by decide +kernel
theorem dX8_isHanded_39 : decode cX8_isHanded 39 = .ok (.istore_n 2, 1) := by decide +kernel
theorem dX8_isHanded_40 : decode cX8_isHanded 40 = .ok (.iinc 3 1, 3) := by decide +kernel
theorem dX8_isHanded_43 : decode cX8_isHanded 43 = .ok (.goto (-39), 3) := by decide +kernel
theorem dX8_isHanded_46 : decode cX8_isHanded 46 = .ok (.iload_n 2, 1) := by decide +kernel
theorem dX8_isHanded_47 : decode cX8_isHanded 47 = .ok (.ireturn, 1) := by decide +kernel
def fM_isHanded_4 (g : mS) (a1 : Int32) (s1 : Int32 × Int32) : Option ((Int32 × Int32) ⊕ (Int32)) :=
  (nx_rd (mlen 7) (g.1 7) (iz 608)).bind fun x2 =>
  if x2 < s1.2 then
    some (.inr s1.1)
  else
    (if s1.1 = iz 0 then
       (nx_rd (mlen 7) (g.1 7) ((iz 608) + s1.2)).bind fun x3 =>
       if x3 = a1 then
         some (iz 1)
       else
         some (iz 0)
     else
       some (iz 1) : Option (Int32)).bind fun s4 =>
    some (.inl (s4, (s1.2 + iz 1)))
def fM_isHanded (u : Nat) (g : mS) (a1 : Int32) : Option (Bool) :=
  (nx_iter u (fM_isHanded_4 g a1) ((iz 0), (iz 1))).bind fun e5 =>
  (nx_tob e5).bind fun b6 =>
  some b6
set_option maxRecDepth 4000 in
theorem jM_isHanded_4 {Γ : nx_G} {M0 : nx_M} {m : Nat} (g : mS) (a1 : Int32)   (X : nx_X) (Z : nx_Z) (s1 : Int32 × Int32) : nx_J Γ X (RX8, cX8_isHanded, 4, (some .boolean), "isHanded", 1) Z (Sum.elim (fun s1 : Int32 × Int32 => .inl (4, [some (.ref m), some (.int a1), some (.int s1.1), some (.int s1.2)], [], (mW Γ M0 m g))) (fun e5 : Int32 => .inl (46, [some (.ref m), some (.int a1), some (.int e5), none], [], (mW Γ M0 m g)))) (.inl (4, [some (.ref m), some (.int a1), some (.int s1.1), some (.int s1.2)], [], (mW Γ M0 m g))) (fM_isHanded_4 g a1 s1) := by
  unfold fM_isHanded_4
  refine nx_iload_n rfl dX8_isHanded_4 rfl ?_
  refine nx_aload_n rfl dX8_isHanded_5 rfl ?_
  refine nx_getf fl_8_28 mW_m rfl dX8_isHanded_6 rfl ?_
  refine nx_sipush (by decide +kernel) dX8_isHanded_9 rfl ?_
  refine m_iald 7 ⟨Nat.le_of_ble_eq_true rfl, Nat.le_of_ble_eq_true rfl⟩ dX8_isHanded_12 rfl (fun x2 => ?_)
  refine nx_icmp_gt (t := 46) dX8_isHanded_13 (by decide) rfl ?_ ?_
  · refine nx_weak (ls' := [some (.ref m), some (.int a1), some (.int s1.1), none]) (nx_wk_s (nx_wk_s (nx_wk_s (nx_wk_n nx_wk_e)))) ?_
    obtain ⟨_, _⟩ := s1
    exact nx_leaf rfl
  · refine nx_iload_n rfl dX8_isHanded_16 rfl ?_
    refine nx_seq (C1 := fun s4 : Int32 => .inl (39, [some (.ref m), some (.int a1), some (.int s1.1), some (.int s1.2)], [.int s4], (mW Γ M0 m g))) ?_ (fun s4 => ?_)
    · refine nx_if_ne (t := 34) dX8_isHanded_17 (by decide) rfl ?_ ?_
      · refine nx_iconst dX8_isHanded_34 rfl ?_
        refine nx_goto (q := 39) dX8_isHanded_35 (by decide) ?_
        obtain ⟨_, _⟩ := s1
        exact nx_leaf rfl
      · refine nx_aload_n rfl dX8_isHanded_20 rfl ?_
        refine nx_getf fl_8_28 mW_m rfl dX8_isHanded_21 rfl ?_
        refine nx_sipush (by decide +kernel) dX8_isHanded_24 rfl ?_
        refine nx_iload_n rfl dX8_isHanded_27 rfl ?_
        refine nx_iadd dX8_isHanded_28 rfl ?_
        refine m_iald 7 ⟨Nat.le_of_ble_eq_true rfl, Nat.le_of_ble_eq_true rfl⟩ dX8_isHanded_29 rfl (fun x3 => ?_)
        refine nx_iload_n rfl dX8_isHanded_30 rfl ?_
        refine nx_icmp_ne (t := 38) dX8_isHanded_31 (by decide) rfl ?_ ?_
        · refine nx_iconst dX8_isHanded_38 rfl ?_
          obtain ⟨_, _⟩ := s1
          exact nx_leaf rfl
        · refine nx_iconst dX8_isHanded_34 rfl ?_
          refine nx_goto (q := 39) dX8_isHanded_35 (by decide) ?_
          obtain ⟨_, _⟩ := s1
          exact nx_leaf rfl
    refine nx_istore_n [some (.ref m), some (.int a1), some (.int s4), some (.int s1.2)] dX8_isHanded_39 rfl (Nat.le_of_ble_eq_true rfl) rfl rfl ?_
    refine nx_iinc [some (.ref m), some (.int a1), some (.int s4), some (.int (s1.2 + iz 1))] dX8_isHanded_40 rfl rfl (Nat.le_of_ble_eq_true rfl) rfl rfl ?_
    refine nx_goto (q := 4) dX8_isHanded_43 (by decide) ?_
    obtain ⟨_, _⟩ := s1
    exact nx_leaf rfl
set_option maxRecDepth 4000 in
theorem jM_isHanded {Γ : nx_G} {M0 : nx_M} {m : Nat} (u : Nat) (g : mS) (a1 : Int32)   (X : nx_X) (Z : nx_Z) : nx_J Γ X (RX8, cX8_isHanded, 4, (some .boolean), "isHanded", 1) Z (fun r0 : Bool => .inr (some (.int (bz r0)), (mW Γ M0 m g))) (.inl (0, [some (.ref m), some (.int a1), none, none], [], (mW Γ M0 m g))) (fM_isHanded u g a1) := by
  unfold fM_isHanded
  refine nx_iconst dX8_isHanded_0 rfl ?_
  refine nx_istore_n [some (.ref m), some (.int a1), some (.int (iz 0)), none] dX8_isHanded_1 rfl (Nat.le_of_ble_eq_true rfl) rfl rfl ?_
  refine nx_iconst dX8_isHanded_2 rfl ?_
  refine nx_istore_n [some (.ref m), some (.int a1), some (.int (iz 0)), some (.int (iz 1))] dX8_isHanded_3 rfl (Nat.le_of_ble_eq_true rfl) rfl rfl ?_
  refine nx_seq (C1 := fun e5 : Int32 => .inl (46, [some (.ref m), some (.int a1), some (.int e5), none], [], (mW Γ M0 m g))) (nx_loop (C1 := fun s1 : Int32 × Int32 => .inl (4, [some (.ref m), some (.int a1), some (.int s1.1), some (.int s1.2)], [], (mW Γ M0 m g))) (fun s1 => jM_isHanded_4  g a1 X Z s1) ((iz 0), (iz 1))) (fun e5 => ?_)
  refine nx_iload_n rfl dX8_isHanded_46 rfl ?_
  refine nx_zretI (fun b6 => ?_)
  exact nx_zret dX8_isHanded_47 rfl rfl
theorem cM_isHanded (l : Launch) {Γ : nx_G} {M0 : nx_M} {m : Nat} {u : Nat} {g : mS} {a1 : Int32} {r : Bool}  (h : fM_isHanded u g a1 = some r) : nx_Ct l Γ 1 yX8_isHanded cX8_isHanded 4 (some .boolean) [.ref m, .int a1] (mW Γ M0 m g) (some (.int (bz r)), (mW Γ M0 m g)) :=
  nx_ct (out := fun r0 : Bool => (some (.int (bz r0)), (mW Γ M0 m g))) [some (.ref m), some (.int a1), none, none] pn_RX8 h (Nat.le_of_ble_eq_true rfl) rfl (fun X Z _ => jM_isHanded  u g a1 X Z)
theorem dX8_whyOpenAt_0 : decode cX8_whyOpenAt 0 = .ok (.aload_n 0, 1) := by decide +kernel
theorem dX8_whyOpenAt_1 : decode cX8_whyOpenAt 1 = .ok (.iload_n 1, 1) := by decide +kernel
theorem dX8_whyOpenAt_2 : decode cX8_whyOpenAt 2 = .ok (.invokevirtual 162, 3) := by decide +kernel
theorem dX8_whyOpenAt_5 : decode cX8_whyOpenAt 5 = .ok (.ifCond .ne 5, 3) := by decide +kernel
theorem dX8_whyOpenAt_8 : decode cX8_whyOpenAt 8 = .ok (.iconst 0, 1) := by decide +kernel
theorem dX8_whyOpenAt_9 : decode cX8_whyOpenAt 9 = .ok (.ireturn, 1) := by decide +kernel
theorem dX8_whyOpenAt_10 : decode cX8_whyOpenAt 10 = .ok (.iload_n 2, 1) := by decide +kernel
theorem dX8_whyOpenAt_11 : decode cX8_whyOpenAt 11 = .ok (.iconst 0, 1) := by decide +kernel
theorem dX8_whyOpenAt_12 : decode cX8_whyOpenAt 12 = .ok (.iconst 1, 1) := by decide +kernel
theorem dX8_whyOpenAt_13 : decode cX8_whyOpenAt 13 = .ok (.invokestatic 61, 3) := by decide +kernel
theorem dX8_whyOpenAt_16 : decode cX8_whyOpenAt 16 = .ok (.ifCond .ne 5, 3) := by decide +kernel
theorem dX8_whyOpenAt_19 : decode cX8_whyOpenAt 19 = .ok (.iconst 1, 1) := by decide +kernel
theorem dX8_whyOpenAt_20 : decode cX8_whyOpenAt 20 = .ok (.ireturn, 1) := by decide +kernel
theorem dX8_whyOpenAt_21 : decode cX8_whyOpenAt 21 = .ok (.aload_n 0, 1) := by decide +kernel
theorem dX8_whyOpenAt_22 : decode cX8_whyOpenAt 22 = .ok (.iload_n 1, 1) := by decide +kernel
theorem dX8_whyOpenAt_23 : decode cX8_whyOpenAt 23 = .ok (.invokevirtual 180, 3) := by decide +kernel
theorem dX8_whyOpenAt_26 : decode cX8_whyOpenAt 26 = .ok (.ifCond .ne 46, 3) := by decide +kernel
theorem dX8_whyOpenAt_29 : decode cX8_whyOpenAt 29 = .ok (.iload_n 3, 1) := by decide +kernel
theorem dX8_whyOpenAt_30 : decode cX8_whyOpenAt 30 = .ok (.aload_n 0, 1) := by decide +kernel
theorem dX8_whyOpenAt_31 : decode cX8_whyOpenAt 31 = .ok (.getfield 28, 3) := by decide +kernel
theorem dX8_whyOpenAt_34 : decode cX8_whyOpenAt 34 = .ok (.sipush 607, 3) := by decide +kernel
theorem dX8_whyOpenAt_37 : decode cX8_whyOpenAt 37 = .ok (.iaload, 1) := by decide +kernel
theorem dX8_whyOpenAt_38 : decode cX8_whyOpenAt 38 = .ok (.if_icmp .le 34, 3) := by decide +kernel
theorem dX8_whyOpenAt_41 : decode cX8_whyOpenAt 41 = .ok (.iload_n 3, 1) := by decide +kernel
theorem dX8_whyOpenAt_42 : decode cX8_whyOpenAt 42 = .ok (.aload_n 0, 1) := by decide +kernel
theorem dX8_whyOpenAt_43 : decode cX8_whyOpenAt 43 = .ok (.getfield 28, 3) := by decide +kernel
theorem dX8_whyOpenAt_46 : decode cX8_whyOpenAt 46 = .ok (.sipush 606, 3) := by decide +kernel
theorem dX8_whyOpenAt_49 : decode cX8_whyOpenAt 49 = .ok (.iaload, 1) := by decide +kernel
theorem dX8_whyOpenAt_50 : decode cX8_whyOpenAt 50 = .ok (.if_icmp .ge 22, 3) := by decide +kernel
theorem dX8_whyOpenAt_53 : decode cX8_whyOpenAt 53 = .ok (.iload_n 3, 1) := by decide +kernel
theorem dX8_whyOpenAt_54 : decode cX8_whyOpenAt 54 = .ok (.aload_n 0, 1) := by decide +kernel
theorem dX8_whyOpenAt_55 : decode cX8_whyOpenAt 55 = .ok (.getfield 19, 3) := by decide +kernel
theorem dX8_whyOpenAt_58 : decode cX8_whyOpenAt 58 = .ok (.iconst 2, 1) := by decide +kernel
theorem dX8_whyOpenAt_59 : decode cX8_whyOpenAt 59 = .ok (.iaload, 1) := by decide +kernel
theorem dX8_whyOpenAt_60 : decode cX8_whyOpenAt 60 = .ok (.irem, 1) := by decide +kernel
theorem dX8_whyOpenAt_61 : decode cX8_whyOpenAt 61 = .ok (.ifCond .eq 11, 3) := by decide +kernel
theorem dX8_whyOpenAt_64 : decode cX8_whyOpenAt 64 = .ok (.aload_n 0, 1) := by decide +kernel
theorem dX8_whyOpenAt_65 : decode cX8_whyOpenAt 65 = .ok (.iload_n 3, 1) := by decide +kernel
theorem dX8_whyOpenAt_66 : decode cX8_whyOpenAt 66 = .ok (.invokevirtual 226, 3) := by decide +kernel
theorem dX8_whyOpenAt_69 : decode cX8_whyOpenAt 69 = .ok (.ifCond .eq 5, 3) := by decide +kernel
theorem dX8_whyOpenAt_72 : decode cX8_whyOpenAt 72 = .ok (.iconst 2, 1) := by decide +kernel
theorem dX8_whyOpenAt_73 : decode cX8_whyOpenAt 73 = .ok (.ireturn, 1) := by decide +kernel
theorem dX8_whyOpenAt_74 : decode cX8_whyOpenAt 74 = .ok (.aload_n 0, 1) := by decide +kernel
theorem dX8_whyOpenAt_75 : decode cX8_whyOpenAt 75 = .ok (.getfield 28, 3) := by decide +kernel
theorem dX8_whyOpenAt_78 : decode cX8_whyOpenAt 78 = .ok (.sipush 608, 3) := by decide +kernel
theorem dX8_whyOpenAt_81 : decode cX8_whyOpenAt 81 = .ok (.iaload, 1) := by decide +kernel
theorem dX8_whyOpenAt_82 : decode cX8_whyOpenAt 82 = .ok (.bipush 30, 2) := by decide +kernel
theorem dX8_whyOpenAt_84 : decode cX8_whyOpenAt 84 = .ok (.if_icmp .ne 7, 3) := by decide +kernel
theorem dX8_whyOpenAt_87 : decode cX8_whyOpenAt 87 = .ok (.iconst 3, 1) := by decide +kernel
theorem dX8_whyOpenAt_88 : decode cX8_whyOpenAt 88 = .ok (.goto 4, 3) := by decide +kernel
theorem dX8_whyOpenAt_91 : decode cX8_whyOpenAt 91 = .ok (.iconst (-1), 1) := by decide +kernel
theorem dX8_whyOpenAt_92 : decode cX8_whyOpenAt 92 = .ok (.ireturn, 1) := by decide +kernel
def fM_whyOpenAt (u : Nat) (g : mS) (a1 : Int32) (a2 : Int32) (a3 : Int32) : Option (Int32) :=
  (fM_isSeat u g a1).bind fun b1 =>
  if b1 = true then
    (fM_in u a2 (iz 0) (iz 1)).bind fun b2 =>
    if b2 = true then
      (fM_isOn u g a1).bind fun b3 =>
      if b3 = true then
        some (iz 2)
      else
        (nx_rd (mlen 7) (g.1 7) (iz 607)).bind fun x4 =>
        if a3 ≤ x4 then
          some (iz 2)
        else
          (nx_rd (mlen 7) (g.1 7) (iz 606)).bind fun x5 =>
          if x5 ≤ a3 then
            some (iz 2)
          else
            (nx_rd (mlen 4) (g.1 4) (iz 2)).bind fun x6 =>
            (nx_rm32 a3 x6).bind fun x7 =>
            if x7 = iz 0 then
              some (iz 2)
            else
              (fM_isHanded u g a3).bind fun b8 =>
              if b8 = true then
                some (iz 2)
              else
                (nx_rd (mlen 7) (g.1 7) (iz 608)).bind fun x9 =>
                if x9 = (iz 30) then
                  some (iz 3)
                else
                  some (iz (-1))
    else
      some (iz 1)
  else
    some (iz 0)
set_option maxRecDepth 4000 in
theorem jM_whyOpenAt {Γ : nx_G} {M0 : nx_M} {m : Nat} (u : Nat) (g : mS) (a1 : Int32) (a2 : Int32) (a3 : Int32)   (X : nx_X) (Z : nx_Z) : nx_J Γ X (RX8, cX8_whyOpenAt, 4, (some .int), "whyOpenAt", 4) Z (fun r0 : Int32 => .inr (some (.int r0), (mW Γ M0 m g))) (.inl (0, [some (.ref m), some (.int a1), some (.int a2), some (.int a3)], [], (mW Γ M0 m g))) (fM_whyOpenAt u g a1 a2 a3) := by
  unfold fM_whyOpenAt
  refine nx_aload_n rfl dX8_whyOpenAt_0 rfl ?_
  refine nx_iload_n rfl dX8_whyOpenAt_1 rfl ?_
  refine nx_callVr [.int a1] (fun r => .int (bz r)) (fun _ => (mW Γ M0 m g)) cw_8_162 cv_X8_isSeat (fun r e => cM_isSeat X.2.1  e) mW_m rfl rfl (Nat.le_of_ble_eq_true rfl) (Nat.le_of_ble_eq_true rfl) dX8_whyOpenAt_2 rfl (fun b1 => ?_)
  refine nx_ifz_ne (t := 10) dX8_whyOpenAt_5 (by decide) rfl ?_ ?_
  · refine nx_iload_n rfl dX8_whyOpenAt_10 rfl ?_
    refine nx_iconst dX8_whyOpenAt_11 rfl ?_
    refine nx_iconst dX8_whyOpenAt_12 rfl ?_
    refine nx_callSr [.int a2, .int (iz 0), .int (iz 1)] (fun r => .int (bz r)) (fun _ => (mW Γ M0 m g)) cw_8_61 wd_1243 (fun r e => cM_in X.2.1  e) rfl rfl (Nat.le_of_ble_eq_true rfl) (Nat.le_of_ble_eq_true rfl) dX8_whyOpenAt_13 rfl (fun b2 => ?_)
    refine nx_ifz_ne (t := 21) dX8_whyOpenAt_16 (by decide) rfl ?_ ?_
    · refine nx_aload_n rfl dX8_whyOpenAt_21 rfl ?_
      refine nx_iload_n rfl dX8_whyOpenAt_22 rfl ?_
      refine nx_callVr [.int a1] (fun r => .int (bz r)) (fun _ => (mW Γ M0 m g)) cw_8_180 cv_X8_isOn (fun r e => cM_isOn X.2.1  e) mW_m rfl rfl (Nat.le_of_ble_eq_true rfl) (Nat.le_of_ble_eq_true rfl) dX8_whyOpenAt_23 rfl (fun b3 => ?_)
      refine nx_ifz_ne (t := 72) dX8_whyOpenAt_26 (by decide) rfl ?_ ?_
      · refine nx_iconst dX8_whyOpenAt_72 rfl ?_
        exact nx_iret dX8_whyOpenAt_73 rfl rfl
      · refine nx_iload_n rfl dX8_whyOpenAt_29 rfl ?_
        refine nx_aload_n rfl dX8_whyOpenAt_30 rfl ?_
        refine nx_getf fl_8_28 mW_m rfl dX8_whyOpenAt_31 rfl ?_
        refine nx_sipush (by decide +kernel) dX8_whyOpenAt_34 rfl ?_
        refine m_iald 7 ⟨Nat.le_of_ble_eq_true rfl, Nat.le_of_ble_eq_true rfl⟩ dX8_whyOpenAt_37 rfl (fun x4 => ?_)
        refine nx_icmp_le (t := 72) dX8_whyOpenAt_38 (by decide) rfl ?_ ?_
        · refine nx_iconst dX8_whyOpenAt_72 rfl ?_
          exact nx_iret dX8_whyOpenAt_73 rfl rfl
        · refine nx_iload_n rfl dX8_whyOpenAt_41 rfl ?_
          refine nx_aload_n rfl dX8_whyOpenAt_42 rfl ?_
          refine nx_getf fl_8_28 mW_m rfl dX8_whyOpenAt_43 rfl ?_
          refine nx_sipush (by decide +kernel) dX8_whyOpenAt_46 rfl ?_
          refine m_iald 7 ⟨Nat.le_of_ble_eq_true rfl, Nat.le_of_ble_eq_true rfl⟩ dX8_whyOpenAt_49 rfl (fun x5 => ?_)
          refine nx_icmp_ge (t := 72) dX8_whyOpenAt_50 (by decide) rfl ?_ ?_
          · refine nx_iconst dX8_whyOpenAt_72 rfl ?_
            exact nx_iret dX8_whyOpenAt_73 rfl rfl
          · refine nx_iload_n rfl dX8_whyOpenAt_53 rfl ?_
            refine nx_aload_n rfl dX8_whyOpenAt_54 rfl ?_
            refine nx_getf fl_8_19 mW_m rfl dX8_whyOpenAt_55 rfl ?_
            refine nx_iconst dX8_whyOpenAt_58 rfl ?_
            refine m_iald 4 ⟨Nat.le_of_ble_eq_true rfl, Nat.le_of_ble_eq_true rfl⟩ dX8_whyOpenAt_59 rfl (fun x6 => ?_)
            refine nx_irem dX8_whyOpenAt_60 rfl (fun x7 => ?_)
            refine nx_if_eq (t := 72) dX8_whyOpenAt_61 (by decide) rfl ?_ ?_
            · refine nx_iconst dX8_whyOpenAt_72 rfl ?_
              exact nx_iret dX8_whyOpenAt_73 rfl rfl
            · refine nx_aload_n rfl dX8_whyOpenAt_64 rfl ?_
              refine nx_iload_n rfl dX8_whyOpenAt_65 rfl ?_
              refine nx_callVr [.int a3] (fun r => .int (bz r)) (fun _ => (mW Γ M0 m g)) cw_8_226 cv_X8_isHanded (fun r e => cM_isHanded X.2.1  e) mW_m rfl rfl (Nat.le_of_ble_eq_true rfl) (Nat.le_of_ble_eq_true rfl) dX8_whyOpenAt_66 rfl (fun b8 => ?_)
              refine nx_ifz_eq (t := 74) dX8_whyOpenAt_69 (by decide) rfl ?_ ?_
              · refine nx_aload_n rfl dX8_whyOpenAt_74 rfl ?_
                refine nx_getf fl_8_28 mW_m rfl dX8_whyOpenAt_75 rfl ?_
                refine nx_sipush (by decide +kernel) dX8_whyOpenAt_78 rfl ?_
                refine m_iald 7 ⟨Nat.le_of_ble_eq_true rfl, Nat.le_of_ble_eq_true rfl⟩ dX8_whyOpenAt_81 rfl (fun x9 => ?_)
                refine nx_bipush (by decide +kernel) dX8_whyOpenAt_82 rfl ?_
                refine nx_icmp_ne (t := 91) dX8_whyOpenAt_84 (by decide) rfl ?_ ?_
                · refine nx_iconst dX8_whyOpenAt_91 rfl ?_
                  exact nx_iret dX8_whyOpenAt_92 rfl rfl
                · refine nx_iconst dX8_whyOpenAt_87 rfl ?_
                  refine nx_goto (q := 92) dX8_whyOpenAt_88 (by decide) ?_
                  exact nx_iret dX8_whyOpenAt_92 rfl rfl
              · refine nx_iconst dX8_whyOpenAt_72 rfl ?_
                exact nx_iret dX8_whyOpenAt_73 rfl rfl
    · refine nx_iconst dX8_whyOpenAt_19 rfl ?_
      exact nx_iret dX8_whyOpenAt_20 rfl rfl
  · refine nx_iconst dX8_whyOpenAt_8 rfl ?_
    exact nx_iret dX8_whyOpenAt_9 rfl rfl
theorem cM_whyOpenAt (l : Launch) {Γ : nx_G} {M0 : nx_M} {m : Nat} {u : Nat} {g : mS} {a1 : Int32} {a2 : Int32} {a3 : Int32} {r : Int32}  (h : fM_whyOpenAt u g a1 a2 a3 = some r) : nx_Ct l Γ 4 yX8_whyOpenAt cX8_whyOpenAt 4 (some .int) [.ref m, .int a1, .int a2, .int a3] (mW Γ M0 m g) (some (.int r), (mW Γ M0 m g)) :=
  nx_ct (out := fun r0 : Int32 => (some (.int r0), (mW Γ M0 m g))) [some (.ref m), some (.int a1), some (.int a2), some (.int a3)] pn_RX8 h (Nat.le_of_ble_eq_true rfl) rfl (fun X Z _ => jM_whyOpenAt  u g a1 a2 a3 X Z)
theorem dX8_whyRead_0 : decode cX8_whyRead 0 = .ok (.aload_n 0, 1) := by decide +kernel
theorem dX8_whyRead_1 : decode cX8_whyRead 1 = .ok (.iload_n 1, 1) := by decide +kernel
theorem dX8_whyRead_2 : decode cX8_whyRead 2 = .ok (.invokevirtual 229, 3) := by decide +kernel
theorem dX8_whyRead_5 : decode cX8_whyRead 5 = .ok (.ifCond .eq 11, 3) := by decide +kernel
theorem dX8_whyRead_8 : decode cX8_whyRead 8 = .ok (.aload_n 0, 1) := by decide +kernel
theorem dX8_whyRead_9 : decode cX8_whyRead 9 = .ok (.iload_n 2, 1) := by decide +kernel
theorem dX8_whyRead_10 : decode cX8_whyRead 10 = .ok (.invokevirtual 232, 3) := by decide +kernel
theorem dX8_whyRead_13 : decode cX8_whyRead 13 = .ok (.ifCond .ne 7, 3) := by decide +kernel
theorem dX8_whyRead_16 : decode cX8_whyRead 16 = .ok (.iconst 0, 1) := by decide +kernel
theorem dX8_whyRead_17 : decode cX8_whyRead 17 = .ok (.goto 16, 3) := by decide +kernel
theorem dX8_whyRead_20 : decode cX8_whyRead 20 = .ok (.aload_n 0, 1) := by decide +kernel
theorem dX8_whyRead_21 : decode cX8_whyRead 21 = .ok (.iload_n 1, 1) := by decide +kernel
theorem dX8_whyRead_22 : decode cX8_whyRead 22 = .ok (.invokevirtual 235, 3) := by decide +kernel
theorem dX8_whyRead_25 : decode cX8_whyRead 25 = .ok (.ifCond .ne 7, 3) := by decide +kernel
theorem dX8_whyRead_28 : decode cX8_whyRead 28 = .ok (.iconst 2, 1) := by decide +kernel
theorem dX8_whyRead_29 : decode cX8_whyRead 29 = .ok (.goto 4, 3) := by decide +kernel
theorem dX8_whyRead_32 : decode cX8_whyRead 32 = .ok (.iconst (-1), 1) := by decide +kernel
theorem dX8_whyRead_33 : decode cX8_whyRead 33 = .ok (.ireturn, 1) := by decide +kernel
def fM_whyRead (u : Nat) (g : mS) (a1 : Int32) (a2 : Int32) : Option (Int32) :=
  (fM_isThere u g a1).bind fun b1 =>
  if b1 = true then
    (fM_isKey u g a2).bind fun b2 =>
    if b2 = true then
      (fM_isActive u g a1).bind fun b3 =>
      if b3 = true then
        some (iz (-1))
      else
        some (iz 2)
    else
      some (iz 0)
  else
    some (iz 0)
set_option maxRecDepth 4000 in
theorem jM_whyRead {Γ : nx_G} {M0 : nx_M} {m : Nat} (u : Nat) (g : mS) (a1 : Int32) (a2 : Int32)   (X : nx_X) (Z : nx_Z) : nx_J Γ X (RX8, cX8_whyRead, 3, (some .int), "whyRead", 4) Z (fun r0 : Int32 => .inr (some (.int r0), (mW Γ M0 m g))) (.inl (0, [some (.ref m), some (.int a1), some (.int a2)], [], (mW Γ M0 m g))) (fM_whyRead u g a1 a2) := by
  unfold fM_whyRead
  refine nx_aload_n rfl dX8_whyRead_0 rfl ?_
  refine nx_iload_n rfl dX8_whyRead_1 rfl ?_
  refine nx_callVr [.int a1] (fun r => .int (bz r)) (fun _ => (mW Γ M0 m g)) cw_8_229 cv_X8_isThere (fun r e => cM_isThere X.2.1  e) mW_m rfl rfl (Nat.le_of_ble_eq_true rfl) (Nat.le_of_ble_eq_true rfl) dX8_whyRead_2 rfl (fun b1 => ?_)
  refine nx_ifz_eq (t := 16) dX8_whyRead_5 (by decide) rfl ?_ ?_
  · refine nx_iconst dX8_whyRead_16 rfl ?_
    refine nx_goto (q := 33) dX8_whyRead_17 (by decide) ?_
    exact nx_iret dX8_whyRead_33 rfl rfl
  · refine nx_aload_n rfl dX8_whyRead_8 rfl ?_
    refine nx_iload_n rfl dX8_whyRead_9 rfl ?_
    refine nx_callVr [.int a2] (fun r => .int (bz r)) (fun _ => (mW Γ M0 m g)) cw_8_232 cv_X8_isKey (fun r e => cM_isKey X.2.1  e) mW_m rfl rfl (Nat.le_of_ble_eq_true rfl) (Nat.le_of_ble_eq_true rfl) dX8_whyRead_10 rfl (fun b2 => ?_)
    refine nx_ifz_ne (t := 20) dX8_whyRead_13 (by decide) rfl ?_ ?_
    · refine nx_aload_n rfl dX8_whyRead_20 rfl ?_
      refine nx_iload_n rfl dX8_whyRead_21 rfl ?_
      refine nx_callVr [.int a1] (fun r => .int (bz r)) (fun _ => (mW Γ M0 m g)) cw_8_235 cv_X8_isActive (fun r e => cM_isActive X.2.1  e) mW_m rfl rfl (Nat.le_of_ble_eq_true rfl) (Nat.le_of_ble_eq_true rfl) dX8_whyRead_22 rfl (fun b3 => ?_)
      refine nx_ifz_ne (t := 32) dX8_whyRead_25 (by decide) rfl ?_ ?_
      · refine nx_iconst dX8_whyRead_32 rfl ?_
        exact nx_iret dX8_whyRead_33 rfl rfl
      · refine nx_iconst dX8_whyRead_28 rfl ?_
        refine nx_goto (q := 33) dX8_whyRead_29 (by decide) ?_
        exact nx_iret dX8_whyRead_33 rfl rfl
    · refine nx_iconst dX8_whyRead_16 rfl ?_
      refine nx_goto (q := 33) dX8_whyRead_17 (by decide) ?_
      exact nx_iret dX8_whyRead_33 rfl rfl
theorem cM_whyRead (l : Launch) {Γ : nx_G} {M0 : nx_M} {m : Nat} {u : Nat} {g : mS} {a1 : Int32} {a2 : Int32} {r : Int32}  (h : fM_whyRead u g a1 a2 = some r) : nx_Ct l Γ 4 yX8_whyRead cX8_whyRead 3 (some .int) [.ref m, .int a1, .int a2] (mW Γ M0 m g) (some (.int r), (mW Γ M0 m g)) :=
  nx_ct (out := fun r0 : Int32 => (some (.int r0), (mW Γ M0 m g))) [some (.ref m), some (.int a1), some (.int a2)] pn_RX8 h (Nat.le_of_ble_eq_true rfl) rfl (fun X Z _ => jM_whyRead  u g a1 a2 X Z)
theorem dX8_isFull_0 : decode cX8_isFull 0 = .ok (.aload_n 0, 1) := by decide +kernel
theorem dX8_isFull_1 : decode cX8_isFull 1 = .ok (.iload_n 2, 1) := by decide +kernel
theorem dX8_isFull_2 : decode cX8_isFull 2 = .ok (.invokevirtual 171, 3) := by decide +kernel
theorem dX8_isFull_5 : decode cX8_isFull 5 = .ok (.aload_n 0, 1) := by decide +kernel
theorem dX8_isFull_6 : decode cX8_isFull 6 = .ok (.getfield 19, 3) := by decide +kernel
theorem dX8_isFull_9 : decode cX8_isFull 9 = .ok (.iconst 0, 1) := by decide +kernel
theorem dX8_isFull_10 : decode cX8_isFull 10 = .ok (.iaload, 1) := by decide +kernel
theorem dX8_isFull_11 : decode cX8_isFull 11 = .ok (.if_icmp .ne 36, 3) := by decide +kernel
theorem dX8_isFull_14 : decode cX8_isFull 14 = .ok (.aload_n 0, 1) := by decide +kernel
theorem dX8_isFull_15 : decode cX8_isFull 15 = .ok (.iload_n 2, 1) := by decide +kernel
theorem dX8_isFull_16 : decode cX8_isFull 16 = .ok (.aload_n 0, 1) := by decide +kernel
theorem dX8_isFull_17 : decode cX8_isFull 17 = .ok (.iload_n 1, 1) := by decide +kernel
theorem dX8_isFull_18 : decode cX8_isFull 18 = .ok (.iconst 1, 1) := by decide +kernel
theorem dX8_isFull_19 : decode cX8_isFull 19 = .ok (.invokevirtual 165, 3) := by decide +kernel
theorem dX8_isFull_22 : decode cX8_isFull 22 = .ok (.invokevirtual 177, 3) := by decide +kernel
theorem dX8_isFull_25 : decode cX8_isFull 25 = .ok (.iconst (-1), 1) := by decide +kernel
theorem dX8_isFull_26 : decode cX8_isFull 26 = .ok (.if_icmp .ne 21, 3) := by decide +kernel
theorem dX8_isFull_29 : decode cX8_isFull 29 = .ok (.aload_n 0, 1) := by decide +kernel
theorem dX8_isFull_30 : decode cX8_isFull 30 = .ok (.iload_n 2, 1) := by decide +kernel
theorem dX8_isFull_31 : decode cX8_isFull 31 = .ok (.aload_n 0, 1) := by decide +kernel
theorem dX8_isFull_32 : decode cX8_isFull 32 = .ok (.iload_n 1, 1) := by decide +kernel
theorem dX8_isFull_33 : decode cX8_isFull 33 = .ok (.iconst 1, 1) := by decide +kernel
theorem dX8_isFull_34 : decode cX8_isFull 34 = .ok (.invokevirtual 165, 3) := by decide +kernel
theorem dX8_isFull_37 : decode cX8_isFull 37 = .ok (.invokevirtual 238, 3) := by decide +kernel
theorem dX8_isFull_40 : decode cX8_isFull 40 = .ok (.ifCond .ne 7, 3) := by decide +kernel
theorem dX8_isFull_43 : decode cX8_isFull 43 = .ok (.iconst 1, 1) := by decide +kernel
theorem dX8_isFull_44 : decode cX8_isFull 44 = .ok (.goto 4, 3) := by decide +kernel
theorem dX8_isFull_47 : decode cX8_isFull 47 = .ok (.iconst 0, 1) := by decide +kernel
theorem dX8_isFull_48 : decode cX8_isFull 48 = .ok (.ireturn, 1) := by decide +kernel
def fM_isFull (u : Nat) (g : mS) (a1 : Int32) (a2 : Int32) : Option (Bool) :=
  (fM_many u g a2).bind fun x1 =>
  (nx_rd (mlen 4) (g.1 4) (iz 0)).bind fun x2 =>
  if x1 = x2 then
    (fM_of u g a1 (iz 1)).bind fun x3 =>
    (fM_placeOf u g a2 x3).bind fun x4 =>
    if x4 = (iz (-1)) then
      (fM_of u g a1 (iz 1)).bind fun x5 =>
      (fM_isLate u g a2 x5).bind fun b6 =>
      if b6 = true then
        some false
      else
        some true
    else
      some false
  else
    some false
set_option maxRecDepth 4000 in
theorem jM_isFull {Γ : nx_G} {M0 : nx_M} {m : Nat} (u : Nat) (g : mS) (a1 : Int32) (a2 : Int32)   (X : nx_X) (Z : nx_Z) : nx_J Γ X (RX8, cX8_isFull, 3, (some .boolean), "isFull", 4) Z (fun r0 : Bool => .inr (some (.int (bz r0)), (mW Γ M0 m g))) (.inl (0, [some (.ref m), some (.int a1), some (.int a2)], [], (mW Γ M0 m g))) (fM_isFull u g a1 a2) := by
  unfold fM_isFull
  refine nx_aload_n rfl dX8_isFull_0 rfl ?_
  refine nx_iload_n rfl dX8_isFull_1 rfl ?_
  refine nx_callVr [.int a2] (fun r => .int r) (fun _ => (mW Γ M0 m g)) cw_8_171 cv_X8_many (fun r e => cM_many X.2.1  e) mW_m rfl rfl (Nat.le_of_ble_eq_true rfl) (Nat.le_of_ble_eq_true rfl) dX8_isFull_2 rfl (fun x1 => ?_)
  refine nx_aload_n rfl dX8_isFull_5 rfl ?_
  refine nx_getf fl_8_19 mW_m rfl dX8_isFull_6 rfl ?_
  refine nx_iconst dX8_isFull_9 rfl ?_
  refine m_iald 4 ⟨Nat.le_of_ble_eq_true rfl, Nat.le_of_ble_eq_true rfl⟩ dX8_isFull_10 rfl (fun x2 => ?_)
  refine nx_icmp_ne (t := 47) dX8_isFull_11 (by decide) rfl ?_ ?_
  · refine nx_iconst dX8_isFull_47 rfl ?_
    exact nx_zret (b := false) dX8_isFull_48 rfl rfl
  · refine nx_aload_n rfl dX8_isFull_14 rfl ?_
    refine nx_iload_n rfl dX8_isFull_15 rfl ?_
    refine nx_aload_n rfl dX8_isFull_16 rfl ?_
    refine nx_iload_n rfl dX8_isFull_17 rfl ?_
    refine nx_iconst dX8_isFull_18 rfl ?_
    refine nx_callVr [.int a1, .int (iz 1)] (fun r => .int r) (fun _ => (mW Γ M0 m g)) cw_8_165 cv_X8_of (fun r e => cM_of X.2.1  e) mW_m rfl rfl (Nat.le_of_ble_eq_true rfl) (Nat.le_of_ble_eq_true rfl) dX8_isFull_19 rfl (fun x3 => ?_)
    refine nx_callVr [.int a2, .int x3] (fun r => .int r) (fun _ => (mW Γ M0 m g)) cw_8_177 cv_X8_placeOf (fun r e => cM_placeOf X.2.1  e) mW_m rfl rfl (Nat.le_of_ble_eq_true rfl) (Nat.le_of_ble_eq_true rfl) dX8_isFull_22 rfl (fun x4 => ?_)
    refine nx_iconst dX8_isFull_25 rfl ?_
    refine nx_icmp_ne (t := 47) dX8_isFull_26 (by decide) rfl ?_ ?_
    · refine nx_iconst dX8_isFull_47 rfl ?_
      exact nx_zret (b := false) dX8_isFull_48 rfl rfl
    · refine nx_aload_n rfl dX8_isFull_29 rfl ?_
      refine nx_iload_n rfl dX8_isFull_30 rfl ?_
      refine nx_aload_n rfl dX8_isFull_31 rfl ?_
      refine nx_iload_n rfl dX8_isFull_32 rfl ?_
      refine nx_iconst dX8_isFull_33 rfl ?_
      refine nx_callVr [.int a1, .int (iz 1)] (fun r => .int r) (fun _ => (mW Γ M0 m g)) cw_8_165 cv_X8_of (fun r e => cM_of X.2.1  e) mW_m rfl rfl (Nat.le_of_ble_eq_true rfl) (Nat.le_of_ble_eq_true rfl) dX8_isFull_34 rfl (fun x5 => ?_)
      refine nx_callVr [.int a2, .int x5] (fun r => .int (bz r)) (fun _ => (mW Γ M0 m g)) cw_8_238 cv_X8_isLate (fun r e => cM_isLate X.2.1  e) mW_m rfl rfl (Nat.le_of_ble_eq_true rfl) (Nat.le_of_ble_eq_true rfl) dX8_isFull_37 rfl (fun b6 => ?_)
      refine nx_ifz_ne (t := 47) dX8_isFull_40 (by decide) rfl ?_ ?_
      · refine nx_iconst dX8_isFull_47 rfl ?_
        exact nx_zret (b := false) dX8_isFull_48 rfl rfl
      · refine nx_iconst dX8_isFull_43 rfl ?_
        refine nx_goto (q := 48) dX8_isFull_44 (by decide) ?_
        exact nx_zret (b := true) dX8_isFull_48 rfl rfl
theorem cM_isFull (l : Launch) {Γ : nx_G} {M0 : nx_M} {m : Nat} {u : Nat} {g : mS} {a1 : Int32} {a2 : Int32} {r : Bool}  (h : fM_isFull u g a1 a2 = some r) : nx_Ct l Γ 4 yX8_isFull cX8_isFull 3 (some .boolean) [.ref m, .int a1, .int a2] (mW Γ M0 m g) (some (.int (bz r)), (mW Γ M0 m g)) :=
  nx_ct (out := fun r0 : Bool => (some (.int (bz r0)), (mW Γ M0 m g))) [some (.ref m), some (.int a1), some (.int a2)] pn_RX8 h (Nat.le_of_ble_eq_true rfl) rfl (fun X Z _ => jM_isFull  u g a1 a2 X Z)
theorem dX8_whyWrite_0 : decode cX8_whyWrite 0 = .ok (.aload_n 0, 1) := by decide +kernel
theorem dX8_whyWrite_1 : decode cX8_whyWrite 1 = .ok (.iload_n 1, 1) := by decide +kernel
theorem dX8_whyWrite_2 : decode cX8_whyWrite 2 = .ok (.invokevirtual 229, 3) := by decide +kernel
theorem dX8_whyWrite_5 : decode cX8_whyWrite 5 = .ok (.ifCond .eq 11, 3) := by decide +kernel
theorem dX8_whyWrite_8 : decode cX8_whyWrite 8 = .ok (.aload_n 0, 1) := by decide +kernel
theorem dX8_whyWrite_9 : decode cX8_whyWrite 9 = .ok (.iload_n 2, 1) := by decide +kernel
theorem dX8_whyWrite_10 : decode cX8_whyWrite 10 = .ok (.invokevirtual 232, 3) := by decide +kernel
theorem dX8_whyWrite_13 : decode cX8_whyWrite 13 = .ok (.ifCond .ne 7, 3) := by decide +kernel
theorem dX8_whyWrite_16 : decode cX8_whyWrite 16 = .ok (.iconst 0, 1) := by decide +kernel
theorem dX8_whyWrite_17 : decode cX8_whyWrite 17 = .ok (.goto 43, 3) := by decide +kernel
theorem dX8_whyWrite_20 : decode cX8_whyWrite 20 = .ok (.iload_n 3, 1) := by decide +kernel
theorem dX8_whyWrite_21 : decode cX8_whyWrite 21 = .ok (.iconst 0, 1) := by decide +kernel
theorem dX8_whyWrite_22 : decode cX8_whyWrite 22 = .ok (.bipush 99, 2) := by decide +kernel
theorem dX8_whyWrite_24 : decode cX8_whyWrite 24 = .ok (.invokestatic 61, 3) := by decide +kernel
theorem dX8_whyWrite_27 : decode cX8_whyWrite 27 = .ok (.ifCond .ne 7, 3) := by decide +kernel
theorem dX8_whyWrite_30 : decode cX8_whyWrite 30 = .ok (.iconst 1, 1) := by decide +kernel
theorem dX8_whyWrite_31 : decode cX8_whyWrite 31 = .ok (.goto 29, 3) := by decide +kernel
theorem dX8_whyWrite_34 : decode cX8_whyWrite 34 = .ok (.aload_n 0, 1) := by decide +kernel
theorem dX8_whyWrite_35 : decode cX8_whyWrite 35 = .ok (.iload_n 1, 1) := by decide +kernel
theorem dX8_whyWrite_36 : decode cX8_whyWrite 36 = .ok (.invokevirtual 235, 3) := by decide +kernel
theorem dX8_whyWrite_39 : decode cX8_whyWrite 39 = .ok (.ifCond .ne 7, 3) := by decide +kernel
theorem dX8_whyWrite_42 : decode cX8_whyWrite 42 = .ok (.iconst 2, 1) := by decide +kernel
theorem dX8_whyWrite_43 : decode cX8_whyWrite 43 = .ok (.goto 17, 3) := by decide +kernel
theorem dX8_whyWrite_46 : decode cX8_whyWrite 46 = .ok (.aload_n 0, 1) := by decide +kernel
theorem dX8_whyWrite_47 : decode cX8_whyWrite 47 = .ok (.iload_n 1, 1) := by decide +kernel
theorem dX8_whyWrite_48 : decode cX8_whyWrite 48 = .ok (.iload_n 2, 1) := by decide +kernel
theorem dX8_whyWrite_49 : decode cX8_whyWrite 49 = .ok (.invokevirtual 241, 3) := by decide +kernel
theorem dX8_whyWrite_52 : decode cX8_whyWrite 52 = .ok (.ifCond .eq 7, 3) := by decide +kernel
theorem dX8_whyWrite_55 : decode cX8_whyWrite 55 = .ok (.iconst 3, 1) := by decide +kernel
theorem dX8_whyWrite_56 : decode cX8_whyWrite 56 = .ok (.goto 4, 3) := by decide +kernel
theorem dX8_whyWrite_59 : decode cX8_whyWrite 59 = .ok (.iconst (-1), 1) := by decide +kernel
theorem dX8_whyWrite_60 : decode cX8_whyWrite 60 = .ok (.ireturn, 1) := by decide +kernel
def fM_whyWrite (u : Nat) (g : mS) (a1 : Int32) (a2 : Int32) (a3 : Int32) : Option (Int32) :=
  (fM_isThere u g a1).bind fun b1 =>
  if b1 = true then
    (fM_isKey u g a2).bind fun b2 =>
    if b2 = true then
      (fM_in u a3 (iz 0) (iz 99)).bind fun b3 =>
      if b3 = true then
        (fM_isActive u g a1).bind fun b4 =>
        if b4 = true then
          (fM_isFull u g a1 a2).bind fun b5 =>
          if b5 = true then
            some (iz 3)
          else
            some (iz (-1))
        else
          some (iz 2)
      else
        some (iz 1)
    else
      some (iz 0)
  else
    some (iz 0)
set_option maxRecDepth 4000 in
theorem jM_whyWrite {Γ : nx_G} {M0 : nx_M} {m : Nat} (u : Nat) (g : mS) (a1 : Int32) (a2 : Int32) (a3 : Int32)   (X : nx_X) (Z : nx_Z) : nx_J Γ X (RX8, cX8_whyWrite, 4, (some .int), "whyWrite", 5) Z (fun r0 : Int32 => .inr (some (.int r0), (mW Γ M0 m g))) (.inl (0, [some (.ref m), some (.int a1), some (.int a2), some (.int a3)], [], (mW Γ M0 m g))) (fM_whyWrite u g a1 a2 a3) := by
  unfold fM_whyWrite
  refine nx_aload_n rfl dX8_whyWrite_0 rfl ?_
  refine nx_iload_n rfl dX8_whyWrite_1 rfl ?_
  refine nx_callVr [.int a1] (fun r => .int (bz r)) (fun _ => (mW Γ M0 m g)) cw_8_229 cv_X8_isThere (fun r e => cM_isThere X.2.1  e) mW_m rfl rfl (Nat.le_of_ble_eq_true rfl) (Nat.le_of_ble_eq_true rfl) dX8_whyWrite_2 rfl (fun b1 => ?_)
  refine nx_ifz_eq (t := 16) dX8_whyWrite_5 (by decide) rfl ?_ ?_
  · refine nx_iconst dX8_whyWrite_16 rfl ?_
    refine nx_goto (q := 60) dX8_whyWrite_17 (by decide) ?_
    exact nx_iret dX8_whyWrite_60 rfl rfl
  · refine nx_aload_n rfl dX8_whyWrite_8 rfl ?_
    refine nx_iload_n rfl dX8_whyWrite_9 rfl ?_
    refine nx_callVr [.int a2] (fun r => .int (bz r)) (fun _ => (mW Γ M0 m g)) cw_8_232 cv_X8_isKey (fun r e => cM_isKey X.2.1  e) mW_m rfl rfl (Nat.le_of_ble_eq_true rfl) (Nat.le_of_ble_eq_true rfl) dX8_whyWrite_10 rfl (fun b2 => ?_)
    refine nx_ifz_ne (t := 20) dX8_whyWrite_13 (by decide) rfl ?_ ?_
    · refine nx_iload_n rfl dX8_whyWrite_20 rfl ?_
      refine nx_iconst dX8_whyWrite_21 rfl ?_
      refine nx_bipush (by decide +kernel) dX8_whyWrite_22 rfl ?_
      refine nx_callSr [.int a3, .int (iz 0), .int (iz 99)] (fun r => .int (bz r)) (fun _ => (mW Γ M0 m g)) cw_8_61 wd_1243 (fun r e => cM_in X.2.1  e) rfl rfl (Nat.le_of_ble_eq_true rfl) (Nat.le_of_ble_eq_true rfl) dX8_whyWrite_24 rfl (fun b3 => ?_)
      refine nx_ifz_ne (t := 34) dX8_whyWrite_27 (by decide) rfl ?_ ?_
      · refine nx_aload_n rfl dX8_whyWrite_34 rfl ?_
        refine nx_iload_n rfl dX8_whyWrite_35 rfl ?_
        refine nx_callVr [.int a1] (fun r => .int (bz r)) (fun _ => (mW Γ M0 m g)) cw_8_235 cv_X8_isActive (fun r e => cM_isActive X.2.1  e) mW_m rfl rfl (Nat.le_of_ble_eq_true rfl) (Nat.le_of_ble_eq_true rfl) dX8_whyWrite_36 rfl (fun b4 => ?_)
        refine nx_ifz_ne (t := 46) dX8_whyWrite_39 (by decide) rfl ?_ ?_
        · refine nx_aload_n rfl dX8_whyWrite_46 rfl ?_
          refine nx_iload_n rfl dX8_whyWrite_47 rfl ?_
          refine nx_iload_n rfl dX8_whyWrite_48 rfl ?_
          refine nx_callVr [.int a1, .int a2] (fun r => .int (bz r)) (fun _ => (mW Γ M0 m g)) cw_8_241 cv_X8_isFull (fun r e => cM_isFull X.2.1  e) mW_m rfl rfl (Nat.le_of_ble_eq_true rfl) (Nat.le_of_ble_eq_true rfl) dX8_whyWrite_49 rfl (fun b5 => ?_)
          refine nx_ifz_eq (t := 59) dX8_whyWrite_52 (by decide) rfl ?_ ?_
          · refine nx_iconst dX8_whyWrite_59 rfl ?_
            exact nx_iret dX8_whyWrite_60 rfl rfl
          · refine nx_iconst dX8_whyWrite_55 rfl ?_
            refine nx_goto (q := 60) dX8_whyWrite_56 (by decide) ?_
            exact nx_iret dX8_whyWrite_60 rfl rfl
        · refine nx_iconst dX8_whyWrite_42 rfl ?_
          refine nx_goto (q := 60) dX8_whyWrite_43 (by decide) ?_
          exact nx_iret dX8_whyWrite_60 rfl rfl
      · refine nx_iconst dX8_whyWrite_30 rfl ?_
        refine nx_goto (q := 60) dX8_whyWrite_31 (by decide) ?_
        exact nx_iret dX8_whyWrite_60 rfl rfl
    · refine nx_iconst dX8_whyWrite_16 rfl ?_
      refine nx_goto (q := 60) dX8_whyWrite_17 (by decide) ?_
      exact nx_iret dX8_whyWrite_60 rfl rfl
theorem cM_whyWrite (l : Launch) {Γ : nx_G} {M0 : nx_M} {m : Nat} {u : Nat} {g : mS} {a1 : Int32} {a2 : Int32} {a3 : Int32} {r : Int32}  (h : fM_whyWrite u g a1 a2 a3 = some r) : nx_Ct l Γ 5 yX8_whyWrite cX8_whyWrite 4 (some .int) [.ref m, .int a1, .int a2, .int a3] (mW Γ M0 m g) (some (.int r), (mW Γ M0 m g)) :=
  nx_ct (out := fun r0 : Int32 => (some (.int r0), (mW Γ M0 m g))) [some (.ref m), some (.int a1), some (.int a2), some (.int a3)] pn_RX8 h (Nat.le_of_ble_eq_true rfl) rfl (fun X Z _ => jM_whyWrite  u g a1 a2 a3 X Z)
theorem dX8_whyCommit_0 : decode cX8_whyCommit 0 = .ok (.aload_n 0, 1) := by decide +kernel
theorem dX8_whyCommit_1 : decode cX8_whyCommit 1 = .ok (.iload_n 1, 1) := by decide +kernel
theorem dX8_whyCommit_2 : decode cX8_whyCommit 2 = .ok (.invokevirtual 229, 3) := by decide +kernel
theorem dX8_whyCommit_5 : decode cX8_whyCommit 5 = .ok (.ifCond .ne 7, 3) := by decide +kernel
theorem dX8_whyCommit_8 : decode cX8_whyCommit 8 = .ok (.iconst 0, 1) := by decide +kernel
theorem dX8_whyCommit_9 : decode cX8_whyCommit 9 = .ok (.goto 16, 3) := by decide +kernel
theorem dX8_whyCommit_12 : decode cX8_whyCommit 12 = .ok (.aload_n 0, 1) := by decide +kernel
theorem dX8_whyCommit_13 : decode cX8_whyCommit 13 = .ok (.iload_n 1, 1) := by decide +kernel
theorem dX8_whyCommit_14 : decode cX8_whyCommit 14 = .ok (.invokevirtual 235, 3) := by decide +kernel
theorem dX8_whyCommit_17 : decode cX8_whyCommit 17 = .ok (.ifCond .ne 7, 3) := by decide +kernel
theorem dX8_whyCommit_20 : decode cX8_whyCommit 20 = .ok (.iconst 2, 1) := by decide +kernel
theorem dX8_whyCommit_21 : decode cX8_whyCommit 21 = .ok (.goto 4, 3) := by decide +kernel
theorem dX8_whyCommit_24 : decode cX8_whyCommit 24 = .ok (.iconst (-1), 1) := by decide +kernel
theorem dX8_whyCommit_25 : decode cX8_whyCommit 25 = .ok (.ireturn, 1) := by decide +kernel
def fM_whyCommit (u : Nat) (g : mS) (a1 : Int32) : Option (Int32) :=
  (fM_isThere u g a1).bind fun b1 =>
  if b1 = true then
    (fM_isActive u g a1).bind fun b2 =>
    if b2 = true then
      some (iz (-1))
    else
      some (iz 2)
  else
    some (iz 0)
set_option maxRecDepth 4000 in
theorem jM_whyCommit {Γ : nx_G} {M0 : nx_M} {m : Nat} (u : Nat) (g : mS) (a1 : Int32)   (X : nx_X) (Z : nx_Z) : nx_J Γ X (RX8, cX8_whyCommit, 2, (some .int), "whyCommit", 4) Z (fun r0 : Int32 => .inr (some (.int r0), (mW Γ M0 m g))) (.inl (0, [some (.ref m), some (.int a1)], [], (mW Γ M0 m g))) (fM_whyCommit u g a1) := by
  unfold fM_whyCommit
  refine nx_aload_n rfl dX8_whyCommit_0 rfl ?_
  refine nx_iload_n rfl dX8_whyCommit_1 rfl ?_
  refine nx_callVr [.int a1] (fun r => .int (bz r)) (fun _ => (mW Γ M0 m g)) cw_8_229 cv_X8_isThere (fun r e => cM_isThere X.2.1  e) mW_m rfl rfl (Nat.le_of_ble_eq_true rfl) (Nat.le_of_ble_eq_true rfl) dX8_whyCommit_2 rfl (fun b1 => ?_)
  refine nx_ifz_ne (t := 12) dX8_whyCommit_5 (by decide) rfl ?_ ?_
  · refine nx_aload_n rfl dX8_whyCommit_12 rfl ?_
    refine nx_iload_n rfl dX8_whyCommit_13 rfl ?_
    refine nx_callVr [.int a1] (fun r => .int (bz r)) (fun _ => (mW Γ M0 m g)) cw_8_235 cv_X8_isActive (fun r e => cM_isActive X.2.1  e) mW_m rfl rfl (Nat.le_of_ble_eq_true rfl) (Nat.le_of_ble_eq_true rfl) dX8_whyCommit_14 rfl (fun b2 => ?_)
    refine nx_ifz_ne (t := 24) dX8_whyCommit_17 (by decide) rfl ?_ ?_
    · refine nx_iconst dX8_whyCommit_24 rfl ?_
      exact nx_iret dX8_whyCommit_25 rfl rfl
    · refine nx_iconst dX8_whyCommit_20 rfl ?_
      refine nx_goto (q := 25) dX8_whyCommit_21 (by decide) ?_
      exact nx_iret dX8_whyCommit_25 rfl rfl
  · refine nx_iconst dX8_whyCommit_8 rfl ?_
    refine nx_goto (q := 25) dX8_whyCommit_9 (by decide) ?_
    exact nx_iret dX8_whyCommit_25 rfl rfl
theorem cM_whyCommit (l : Launch) {Γ : nx_G} {M0 : nx_M} {m : Nat} {u : Nat} {g : mS} {a1 : Int32} {r : Int32}  (h : fM_whyCommit u g a1 = some r) : nx_Ct l Γ 4 yX8_whyCommit cX8_whyCommit 2 (some .int) [.ref m, .int a1] (mW Γ M0 m g) (some (.int r), (mW Γ M0 m g)) :=
  nx_ct (out := fun r0 : Int32 => (some (.int r0), (mW Γ M0 m g))) [some (.ref m), some (.int a1)] pn_RX8 h (Nat.le_of_ble_eq_true rfl) rfl (fun X Z _ => jM_whyCommit  u g a1 X Z)
theorem dX8_whyAbort_0 : decode cX8_whyAbort 0 = .ok (.aload_n 0, 1) := by decide +kernel
theorem dX8_whyAbort_1 : decode cX8_whyAbort 1 = .ok (.iload_n 1, 1) := by decide +kernel
theorem dX8_whyAbort_2 : decode cX8_whyAbort 2 = .ok (.invokevirtual 229, 3) := by decide +kernel
theorem dX8_whyAbort_5 : decode cX8_whyAbort 5 = .ok (.ifCond .ne 7, 3) := by decide +kernel
theorem dX8_whyAbort_8 : decode cX8_whyAbort 8 = .ok (.iconst 0, 1) := by decide +kernel
theorem dX8_whyAbort_9 : decode cX8_whyAbort 9 = .ok (.goto 16, 3) := by decide +kernel
theorem dX8_whyAbort_12 : decode cX8_whyAbort 12 = .ok (.aload_n 0, 1) := by decide +kernel
theorem dX8_whyAbort_13 : decode cX8_whyAbort 13 = .ok (.iload_n 1, 1) := by decide +kernel
theorem dX8_whyAbort_14 : decode cX8_whyAbort 14 = .ok (.invokevirtual 180, 3) := by decide +kernel
theorem dX8_whyAbort_17 : decode cX8_whyAbort 17 = .ok (.ifCond .ne 7, 3) := by decide +kernel
theorem dX8_whyAbort_20 : decode cX8_whyAbort 20 = .ok (.iconst 2, 1) := by decide +kernel
theorem dX8_whyAbort_21 : decode cX8_whyAbort 21 = .ok (.goto 4, 3) := by decide +kernel
theorem dX8_whyAbort_24 : decode cX8_whyAbort 24 = .ok (.iconst (-1), 1) := by decide +kernel
theorem dX8_whyAbort_25 : decode cX8_whyAbort 25 = .ok (.ireturn, 1) := by decide +kernel
def fM_whyAbort (u : Nat) (g : mS) (a1 : Int32) : Option (Int32) :=
  (fM_isThere u g a1).bind fun b1 =>
  if b1 = true then
    (fM_isOn u g a1).bind fun b2 =>
    if b2 = true then
      some (iz (-1))
    else
      some (iz 2)
  else
    some (iz 0)
set_option maxRecDepth 4000 in
theorem jM_whyAbort {Γ : nx_G} {M0 : nx_M} {m : Nat} (u : Nat) (g : mS) (a1 : Int32)   (X : nx_X) (Z : nx_Z) : nx_J Γ X (RX8, cX8_whyAbort, 2, (some .int), "whyAbort", 4) Z (fun r0 : Int32 => .inr (some (.int r0), (mW Γ M0 m g))) (.inl (0, [some (.ref m), some (.int a1)], [], (mW Γ M0 m g))) (fM_whyAbort u g a1) := by
  unfold fM_whyAbort
  refine nx_aload_n rfl dX8_whyAbort_0 rfl ?_
  refine nx_iload_n rfl dX8_whyAbort_1 rfl ?_
  refine nx_callVr [.int a1] (fun r => .int (bz r)) (fun _ => (mW Γ M0 m g)) cw_8_229 cv_X8_isThere (fun r e => cM_isThere X.2.1  e) mW_m rfl rfl (Nat.le_of_ble_eq_true rfl) (Nat.le_of_ble_eq_true rfl) dX8_whyAbort_2 rfl (fun b1 => ?_)
  refine nx_ifz_ne (t := 12) dX8_whyAbort_5 (by decide) rfl ?_ ?_
  · refine nx_aload_n rfl dX8_whyAbort_12 rfl ?_
    refine nx_iload_n rfl dX8_whyAbort_13 rfl ?_
    refine nx_callVr [.int a1] (fun r => .int (bz r)) (fun _ => (mW Γ M0 m g)) cw_8_180 cv_X8_isOn (fun r e => cM_isOn X.2.1  e) mW_m rfl rfl (Nat.le_of_ble_eq_true rfl) (Nat.le_of_ble_eq_true rfl) dX8_whyAbort_14 rfl (fun b2 => ?_)
    refine nx_ifz_ne (t := 24) dX8_whyAbort_17 (by decide) rfl ?_ ?_
    · refine nx_iconst dX8_whyAbort_24 rfl ?_
      exact nx_iret dX8_whyAbort_25 rfl rfl
    · refine nx_iconst dX8_whyAbort_20 rfl ?_
      refine nx_goto (q := 25) dX8_whyAbort_21 (by decide) ?_
      exact nx_iret dX8_whyAbort_25 rfl rfl
  · refine nx_iconst dX8_whyAbort_8 rfl ?_
    refine nx_goto (q := 25) dX8_whyAbort_9 (by decide) ?_
    exact nx_iret dX8_whyAbort_25 rfl rfl
theorem cM_whyAbort (l : Launch) {Γ : nx_G} {M0 : nx_M} {m : Nat} {u : Nat} {g : mS} {a1 : Int32} {r : Int32}  (h : fM_whyAbort u g a1 = some r) : nx_Ct l Γ 4 yX8_whyAbort cX8_whyAbort 2 (some .int) [.ref m, .int a1] (mW Γ M0 m g) (some (.int r), (mW Γ M0 m g)) :=
  nx_ct (out := fun r0 : Int32 => (some (.int r0), (mW Γ M0 m g))) [some (.ref m), some (.int a1)] pn_RX8 h (Nat.le_of_ble_eq_true rfl) rfl (fun X Z _ => jM_whyAbort  u g a1 X Z)
theorem dX8_whyRetry_0 : decode cX8_whyRetry 0 = .ok (.aload_n 0, 1) := by decide +kernel
theorem dX8_whyRetry_1 : decode cX8_whyRetry 1 = .ok (.iload_n 1, 1) := by decide +kernel
theorem dX8_whyRetry_2 : decode cX8_whyRetry 2 = .ok (.invokevirtual 229, 3) := by decide +kernel
theorem dX8_whyRetry_5 : decode cX8_whyRetry 5 = .ok (.ifCond .ne 7, 3) := by decide +kernel
theorem dX8_whyRetry_8 : decode cX8_whyRetry 8 = .ok (.iconst 0, 1) := by decide +kernel
theorem dX8_whyRetry_9 : decode cX8_whyRetry 9 = .ok (.goto 43, 3) := by decide +kernel
theorem dX8_whyRetry_12 : decode cX8_whyRetry 12 = .ok (.aload_n 0, 1) := by decide +kernel
theorem dX8_whyRetry_13 : decode cX8_whyRetry 13 = .ok (.iload_n 1, 1) := by decide +kernel
theorem dX8_whyRetry_14 : decode cX8_whyRetry 14 = .ok (.iconst 0, 1) := by decide +kernel
theorem dX8_whyRetry_15 : decode cX8_whyRetry 15 = .ok (.invokevirtual 165, 3) := by decide +kernel
theorem dX8_whyRetry_18 : decode cX8_whyRetry 18 = .ok (.iconst 4, 1) := by decide +kernel
theorem dX8_whyRetry_19 : decode cX8_whyRetry 19 = .ok (.if_icmp .eq 7, 3) := by decide +kernel
theorem dX8_whyRetry_22 : decode cX8_whyRetry 22 = .ok (.iconst 2, 1) := by decide +kernel
theorem dX8_whyRetry_23 : decode cX8_whyRetry 23 = .ok (.goto 29, 3) := by decide +kernel
theorem dX8_whyRetry_26 : decode cX8_whyRetry 26 = .ok (.aload_n 0, 1) := by decide +kernel
theorem dX8_whyRetry_27 : decode cX8_whyRetry 27 = .ok (.getfield 28, 3) := by decide +kernel
theorem dX8_whyRetry_30 : decode cX8_whyRetry 30 = .ok (.sipush 606, 3) := by decide +kernel
theorem dX8_whyRetry_33 : decode cX8_whyRetry 33 = .ok (.iaload, 1) := by decide +kernel
theorem dX8_whyRetry_34 : decode cX8_whyRetry 34 = .ok (.aload_n 0, 1) := by decide +kernel
theorem dX8_whyRetry_35 : decode cX8_whyRetry 35 = .ok (.getfield 19, 3) := by decide +kernel
theorem dX8_whyRetry_38 : decode cX8_whyRetry 38 = .ok (.iconst 2, 1) := by decide +kernel
theorem dX8_whyRetry_39 : decode cX8_whyRetry 39 = .ok (.iaload, 1) := by decide +kernel
theorem dX8_whyRetry_40 : decode cX8_whyRetry 40 = .ok (.iadd, 1) := by decide +kernel
theorem dX8_whyRetry_41 : decode cX8_whyRetry 41 = .ok (.sipush 9999, 3) := by decide +kernel
theorem dX8_whyRetry_44 : decode cX8_whyRetry 44 = .ok (.if_icmp .le 7, 3) := by decide +kernel
theorem dX8_whyRetry_47 : decode cX8_whyRetry 47 = .ok (.iconst 3, 1) := by decide +kernel
theorem dX8_whyRetry_48 : decode cX8_whyRetry 48 = .ok (.goto 4, 3) := by decide +kernel
theorem dX8_whyRetry_51 : decode cX8_whyRetry 51 = .ok (.iconst (-1), 1) := by decide +kernel
theorem dX8_whyRetry_52 : decode cX8_whyRetry 52 = .ok (.ireturn, 1) := by decide +kernel
def fM_whyRetry (u : Nat) (g : mS) (a1 : Int32) : Option (Int32) :=
  (fM_isThere u g a1).bind fun b1 =>
  if b1 = true then
    (fM_of u g a1 (iz 0)).bind fun x2 =>
    if x2 = (iz 4) then
      (nx_rd (mlen 7) (g.1 7) (iz 606)).bind fun x3 =>
      (nx_rd (mlen 4) (g.1 4) (iz 2)).bind fun x4 =>
      if (x3 + x4) ≤ (iz 9999) then
        some (iz (-1))
      else
        some (iz 3)
    else
      some (iz 2)
  else
    some (iz 0)
set_option maxRecDepth 4000 in
theorem jM_whyRetry {Γ : nx_G} {M0 : nx_M} {m : Nat} (u : Nat) (g : mS) (a1 : Int32)   (X : nx_X) (Z : nx_Z) : nx_J Γ X (RX8, cX8_whyRetry, 2, (some .int), "whyRetry", 4) Z (fun r0 : Int32 => .inr (some (.int r0), (mW Γ M0 m g))) (.inl (0, [some (.ref m), some (.int a1)], [], (mW Γ M0 m g))) (fM_whyRetry u g a1) := by
  unfold fM_whyRetry
  refine nx_aload_n rfl dX8_whyRetry_0 rfl ?_
  refine nx_iload_n rfl dX8_whyRetry_1 rfl ?_
  refine nx_callVr [.int a1] (fun r => .int (bz r)) (fun _ => (mW Γ M0 m g)) cw_8_229 cv_X8_isThere (fun r e => cM_isThere X.2.1  e) mW_m rfl rfl (Nat.le_of_ble_eq_true rfl) (Nat.le_of_ble_eq_true rfl) dX8_whyRetry_2 rfl (fun b1 => ?_)
  refine nx_ifz_ne (t := 12) dX8_whyRetry_5 (by decide) rfl ?_ ?_
  · refine nx_aload_n rfl dX8_whyRetry_12 rfl ?_
    refine nx_iload_n rfl dX8_whyRetry_13 rfl ?_
    refine nx_iconst dX8_whyRetry_14 rfl ?_
    refine nx_callVr [.int a1, .int (iz 0)] (fun r => .int r) (fun _ => (mW Γ M0 m g)) cw_8_165 cv_X8_of (fun r e => cM_of X.2.1  e) mW_m rfl rfl (Nat.le_of_ble_eq_true rfl) (Nat.le_of_ble_eq_true rfl) dX8_whyRetry_15 rfl (fun x2 => ?_)
    refine nx_iconst dX8_whyRetry_18 rfl ?_
    refine nx_icmp_eq (t := 26) dX8_whyRetry_19 (by decide) rfl ?_ ?_
    · refine nx_aload_n rfl dX8_whyRetry_26 rfl ?_
      refine nx_getf fl_8_28 mW_m rfl dX8_whyRetry_27 rfl ?_
      refine nx_sipush (by decide +kernel) dX8_whyRetry_30 rfl ?_
      refine m_iald 7 ⟨Nat.le_of_ble_eq_true rfl, Nat.le_of_ble_eq_true rfl⟩ dX8_whyRetry_33 rfl (fun x3 => ?_)
      refine nx_aload_n rfl dX8_whyRetry_34 rfl ?_
      refine nx_getf fl_8_19 mW_m rfl dX8_whyRetry_35 rfl ?_
      refine nx_iconst dX8_whyRetry_38 rfl ?_
      refine m_iald 4 ⟨Nat.le_of_ble_eq_true rfl, Nat.le_of_ble_eq_true rfl⟩ dX8_whyRetry_39 rfl (fun x4 => ?_)
      refine nx_iadd dX8_whyRetry_40 rfl ?_
      refine nx_sipush (by decide +kernel) dX8_whyRetry_41 rfl ?_
      refine nx_icmp_le (t := 51) dX8_whyRetry_44 (by decide) rfl ?_ ?_
      · refine nx_iconst dX8_whyRetry_51 rfl ?_
        exact nx_iret dX8_whyRetry_52 rfl rfl
      · refine nx_iconst dX8_whyRetry_47 rfl ?_
        refine nx_goto (q := 52) dX8_whyRetry_48 (by decide) ?_
        exact nx_iret dX8_whyRetry_52 rfl rfl
    · refine nx_iconst dX8_whyRetry_22 rfl ?_
      refine nx_goto (q := 52) dX8_whyRetry_23 (by decide) ?_
      exact nx_iret dX8_whyRetry_52 rfl rfl
  · refine nx_iconst dX8_whyRetry_8 rfl ?_
    refine nx_goto (q := 52) dX8_whyRetry_9 (by decide) ?_
    exact nx_iret dX8_whyRetry_52 rfl rfl
theorem cM_whyRetry (l : Launch) {Γ : nx_G} {M0 : nx_M} {m : Nat} {u : Nat} {g : mS} {a1 : Int32} {r : Int32}  (h : fM_whyRetry u g a1 = some r) : nx_Ct l Γ 4 yX8_whyRetry cX8_whyRetry 2 (some .int) [.ref m, .int a1] (mW Γ M0 m g) (some (.int r), (mW Γ M0 m g)) :=
  nx_ct (out := fun r0 : Int32 => (some (.int r0), (mW Γ M0 m g))) [some (.ref m), some (.int a1)] pn_RX8 h (Nat.le_of_ble_eq_true rfl) rfl (fun X Z _ => jM_whyRetry  u g a1 X Z)
theorem dX8_seatOne_0 : decode cX8_seatOne 0 = .ok (.iconst 0, 1) := by decide +kernel
theorem dX8_seatOne_1 : decode cX8_seatOne 1 = .ok (.istore 4, 2) := by decide +kernel
theorem dX8_seatOne_3 : decode cX8_seatOne 3 = .ok (.iload 4, 2) := by decide +kernel
theorem dX8_seatOne_5 : decode cX8_seatOne 5 = .ok (.bipush 48, 2) := by decide +kernel
theorem dX8_seatOne_7 : decode cX8_seatOne 7 = .ok (.if_icmp .ge 21, 3) := by decide +kernel
theorem dX8_seatOne_10 : decode cX8_seatOne 10 = .ok (.aload_n 0, 1) := by decide +kernel
theorem dX8_seatOne_11 : decode cX8_seatOne 11 = .ok (.getfield 28, 3) := by decide +kernel
theorem dX8_seatOne_14 : decode cX8_seatOne 14 = .ok (.iload_n 1, 1) := by decide +kernel
theorem dX8_seatOne_15 : decode cX8_seatOne 15 = .ok (.iload 4, 2) := by decide +kernel
theorem dX8_seatOne_17 : decode cX8_seatOne 17 = .ok (.invokestatic 132, 3) := by decide +kernel
theorem dX8_seatOne_20 : decode cX8_seatOne 20 = .ok (.iconst 0, 1) := by decide +kernel
theorem dX8_seatOne_21 : decode cX8_seatOne 21 = .ok (.iastore, 1) := by decide +kernel
theorem dX8_seatOne_22 : decode cX8_seatOne 22 = .ok (.iinc 4 1, 3) := by decide +kernel
theorem dX8_seatOne_25 : decode cX8_seatOne 25 = .ok (.goto (-22), 3) := by decide +kernel
theorem dX8_seatOne_28 : decode cX8_seatOne 28 = .ok (.aload_n 0, 1) := by decide +kernel
theorem dX8_seatOne_29 : decode cX8_seatOne 29 = .ok (.getfield 28, 3) := by decide +kernel
theorem dX8_seatOne_32 : decode cX8_seatOne 32 = .ok (.iload_n 1, 1) := by decide +kernel
theorem dX8_seatOne_33 : decode cX8_seatOne 33 = .ok (.iconst 0, 1) := by decide +kernel
theorem dX8_seatOne_34 : decode cX8_seatOne 34 = .ok (.invokestatic 132, 3) := by decide +kernel
theorem dX8_seatOne_37 : decode cX8_seatOne 37 = .ok (.iconst 1, 1) := by decide +kernel
theorem dX8_seatOne_38 : decode cX8_seatOne 38 = .ok (.iastore, 1) := by decide +kernel
theorem dX8_seatOne_39 : decode cX8_seatOne 39 = .ok (.aload_n 0, 1) := by decide +kernel
theorem dX8_seatOne_40 : decode cX8_seatOne 40 = .ok (.getfield 28, 3) := by decide +kernel
theorem dX8_seatOne_43 : decode cX8_seatOne 43 = .ok (.iload_n 1, 1) := by decide +kernel
theorem dX8_seatOne_44 : decode cX8_seatOne 44 = .ok (.iconst 1, 1) := by decide +kernel
theorem dX8_seatOne_45 : decode cX8_seatOne 45 = .ok (.invokestatic 132, 3) := by decide +kernel
theorem dX8_seatOne_48 : decode cX8_seatOne 48 = .ok (.iload_n 3, 1) := by decide +kernel
theorem dX8_seatOne_49 : decode cX8_seatOne 49 = .ok (.iastore, 1) := by decide +kernel
theorem dX8_seatOne_50 : decode cX8_seatOne 50 = .ok (.aload_n 0, 1) := by decide +kernel
theorem dX8_seatOne_51 : decode cX8_seatOne 51 = .ok (.getfield 28, 3) := by decide +kernel
theorem dX8_seatOne_54 : decode cX8_seatOne 54 = .ok (.iload_n 1, 1) := by decide +kernel
theorem dX8_seatOne_55 : decode cX8_seatOne 55 = .ok (.iconst 2, 1) := by decide +kernel
theorem dX8_seatOne_56 : decode cX8_seatOne 56 = .ok (.invokestatic 132, 3) := by decide +kernel
theorem dX8_seatOne_59 : decode cX8_seatOne 59 = .ok (.iload_n 2, 1) := by decide +kernel
theorem dX8_seatOne_60 : decode cX8_seatOne 60 = .ok (.iastore, 1) := by decide +kernel
theorem dX8_seatOne_61 : decode cX8_seatOne 61 = .ok (.iconst 0, 1) := by decide +kernel
theorem dX8_seatOne_62 : decode cX8_seatOne 62 = .ok (.istore 4, 2) := by decide +kernel
theorem dX8_seatOne_64 : decode cX8_seatOne 64 = .ok (.iload 4, 2) := by decide +kernel
theorem dX8_seatOne_66 : decode cX8_seatOne 66 = .ok (.bipush 6, 2) := by decide +kernel
theorem dX8_seatOne_68 : decode cX8_seatOne 68 = .ok (.if_icmp .ge 23, 3) := by decide +kernel
theorem dX8_seatOne_71 : decode cX8_seatOne 71 = .ok (.aload_n 0, 1) := by decide +kernel
theorem dX8_seatOne_72 : decode cX8_seatOne 72 = .ok (.getfield 28, 3) := by decide +kernel
theorem dX8_seatOne_75 : decode cX8_seatOne 75 = .ok (.iload_n 1, 1) := by decide +kernel
theorem dX8_seatOne_76 : decode cX8_seatOne 76 = .ok (.iconst 5, 1) := by decide +kernel
theorem dX8_seatOne_77 : decode cX8_seatOne 77 = .ok (.iload 4, 2) := by decide +kernel
theorem dX8_seatOne_79 : decode cX8_seatOne 79 = .ok (.iadd, 1) := by decide +kernel
theorem dX8_seatOne_80 : decode cX8_seatOne 80 = .ok (.invokestatic 132, 3) := by decide +kernel
theorem dX8_seatOne_83 : decode cX8_seatOne 83 = .ok (.iconst (-1), 1) := by decide +kernel
theorem dX8_seatOne_84 : decode cX8_seatOne 84 = .ok (.iastore, 1) := by decide +kernel
theorem dX8_seatOne_85 : decode cX8_seatOne 85 = .ok (.iinc 4 1, 3) := by decide +kernel
theorem dX8_seatOne_88 : decode cX8_seatOne 88 = .ok (.goto (-24), 3) := by decide +kernel
theorem dX8_seatOne_91 : decode cX8_seatOne 91 = .ok (.aload_n 0, 1) := by decide +kernel
theorem dX8_seatOne_92 : decode cX8_seatOne 92 = .ok (.iconst 0, 1) := by decide +kernel
theorem dX8_seatOne_93 : decode cX8_seatOne 93 = .ok (.iload_n 1, 1) := by decide +kernel
theorem dX8_seatOne_94 : decode cX8_seatOne 94 = .ok (.iload_n 3, 1) := by decide +kernel
theorem dX8_seatOne_95 : decode cX8_seatOne 95 = .ok (.invokevirtual 201, 3) := by decide +kernel
theorem dX8_seatOne_98 : decode cX8_seatOne 98 = .ok (.return_, 1) := by decide +kernel
def fM_seatOne_3 (u : Nat) (a1 : Int32) (s1 : Int32 × mS) : Option ((Int32 × mS) ⊕ (mS)) :=
  if (iz 48) ≤ s1.1 then
    some (.inr s1.2)
  else
    (fM_ofSeat u a1 s1.1).bind fun x2 =>
    (mWr s1.2 7 x2 (iz 0)).bind fun g3 =>
    some (.inl ((s1.1 + iz 1), g3))
def fM_seatOne_64 (u : Nat) (a1 : Int32) (s11 : Int32 × mS) : Option ((Int32 × mS) ⊕ (mS)) :=
  if (iz 6) ≤ s11.1 then
    some (.inr s11.2)
  else
    (fM_ofSeat u a1 ((iz 5) + s11.1)).bind fun x12 =>
    (mWr s11.2 7 x12 (iz (-1))).bind fun g13 =>
    some (.inl ((s11.1 + iz 1), g13))
def fM_seatOne (u : Nat) (g : mS) (a1 : Int32) (a2 : Int32) (a3 : Int32) : Option (mS) :=
  (nx_iter u (fM_seatOne_3 u a1) ((iz 0), g)).bind fun e4 =>
  (fM_ofSeat u a1 (iz 0)).bind fun x5 =>
  (mWr e4 7 x5 (iz 1)).bind fun g6 =>
  (fM_ofSeat u a1 (iz 1)).bind fun x7 =>
  (mWr g6 7 x7 a3).bind fun g8 =>
  (fM_ofSeat u a1 (iz 2)).bind fun x9 =>
  (mWr g8 7 x9 a2).bind fun g10 =>
  (nx_iter u (fM_seatOne_64 u a1) ((iz 0), g10)).bind fun e14 =>
  (fM_note u e14 (iz 0) a1 a3).bind fun g15 =>
  some g15
set_option maxRecDepth 4000 in
theorem jM_seatOne_3 {Γ : nx_G} {M0 : nx_M} {m : Nat} (u : Nat) (a1 : Int32) (a2 : Int32) (a3 : Int32)   (X : nx_X) (Z : nx_Z) (s1 : Int32 × mS) : nx_J Γ X (RX8, cX8_seatOne, 5, none, "seatOne", 2) Z (Sum.elim (fun s1 : Int32 × mS => .inl (3, [some (.ref m), some (.int a1), some (.int a2), some (.int a3), some (.int s1.1)], [], (mW Γ M0 m s1.2))) (fun e4 : mS => .inl (28, [some (.ref m), some (.int a1), some (.int a2), some (.int a3), none], [], (mW Γ M0 m e4)))) (.inl (3, [some (.ref m), some (.int a1), some (.int a2), some (.int a3), some (.int s1.1)], [], (mW Γ M0 m s1.2))) (fM_seatOne_3 u a1 s1) := by
  unfold fM_seatOne_3
  refine nx_iload rfl dX8_seatOne_3 rfl ?_
  refine nx_bipush (by decide +kernel) dX8_seatOne_5 rfl ?_
  refine nx_icmp_ge (t := 28) dX8_seatOne_7 (by decide) rfl ?_ ?_
  · refine nx_weak (ls' := [some (.ref m), some (.int a1), some (.int a2), some (.int a3), none]) (nx_wk_s (nx_wk_s (nx_wk_s (nx_wk_s (nx_wk_n nx_wk_e))))) ?_
    obtain ⟨_, _⟩ := s1
    exact nx_leaf rfl
  · refine nx_aload_n rfl dX8_seatOne_10 rfl ?_
    refine nx_getf fl_8_28 mW_m rfl dX8_seatOne_11 rfl ?_
    refine nx_iload_n rfl dX8_seatOne_14 rfl ?_
    refine nx_iload rfl dX8_seatOne_15 rfl ?_
    refine nx_callSr [.int a1, .int s1.1] (fun r => .int r) (fun _ => (mW Γ M0 m s1.2)) cw_8_132 wd_1348 (fun r e => cM_ofSeat X.2.1  e) rfl rfl (Nat.le_of_ble_eq_true rfl) (Nat.le_of_ble_eq_true rfl) dX8_seatOne_17 rfl (fun x2 => ?_)
    refine nx_iconst dX8_seatOne_20 rfl ?_
    refine m_iast 7 ⟨Nat.le_of_ble_eq_true rfl, Nat.le_of_ble_eq_true rfl⟩ dX8_seatOne_21 rfl (fun g3 => ?_)
    refine nx_iinc [some (.ref m), some (.int a1), some (.int a2), some (.int a3), some (.int (s1.1 + iz 1))] dX8_seatOne_22 rfl rfl (Nat.le_of_ble_eq_true rfl) rfl rfl ?_
    refine nx_goto (q := 3) dX8_seatOne_25 (by decide) ?_
    obtain ⟨_, _⟩ := s1
    exact nx_leaf rfl
set_option maxRecDepth 4000 in
theorem jM_seatOne_64 {Γ : nx_G} {M0 : nx_M} {m : Nat} (u : Nat) (a1 : Int32) (a2 : Int32) (a3 : Int32)   (X : nx_X) (Z : nx_Z) (s11 : Int32 × mS) : nx_J Γ X (RX8, cX8_seatOne, 5, none, "seatOne", 2) Z (Sum.elim (fun s11 : Int32 × mS => .inl (64, [some (.ref m), some (.int a1), some (.int a2), some (.int a3), some (.int s11.1)], [], (mW Γ M0 m s11.2))) (fun e14 : mS => .inl (91, [some (.ref m), some (.int a1), some (.int a2), some (.int a3), none], [], (mW Γ M0 m e14)))) (.inl (64, [some (.ref m), some (.int a1), some (.int a2), some (.int a3), some (.int s11.1)], [], (mW Γ M0 m s11.2))) (fM_seatOne_64 u a1 s11) := by
  unfold fM_seatOne_64
  refine nx_iload rfl dX8_seatOne_64 rfl ?_
  refine nx_bipush (by decide +kernel) dX8_seatOne_66 rfl ?_
  refine nx_icmp_ge (t := 91) dX8_seatOne_68 (by decide) rfl ?_ ?_
  · refine nx_weak (ls' := [some (.ref m), some (.int a1), some (.int a2), some (.int a3), none]) (nx_wk_s (nx_wk_s (nx_wk_s (nx_wk_s (nx_wk_n nx_wk_e))))) ?_
    obtain ⟨_, _⟩ := s11
    exact nx_leaf rfl
  · refine nx_aload_n rfl dX8_seatOne_71 rfl ?_
    refine nx_getf fl_8_28 mW_m rfl dX8_seatOne_72 rfl ?_
    refine nx_iload_n rfl dX8_seatOne_75 rfl ?_
    refine nx_iconst dX8_seatOne_76 rfl ?_
    refine nx_iload rfl dX8_seatOne_77 rfl ?_
    refine nx_iadd dX8_seatOne_79 rfl ?_
    refine nx_callSr [.int a1, .int ((iz 5) + s11.1)] (fun r => .int r) (fun _ => (mW Γ M0 m s11.2)) cw_8_132 wd_1348 (fun r e => cM_ofSeat X.2.1  e) rfl rfl (Nat.le_of_ble_eq_true rfl) (Nat.le_of_ble_eq_true rfl) dX8_seatOne_80 rfl (fun x12 => ?_)
    refine nx_iconst dX8_seatOne_83 rfl ?_
    refine m_iast 7 ⟨Nat.le_of_ble_eq_true rfl, Nat.le_of_ble_eq_true rfl⟩ dX8_seatOne_84 rfl (fun g13 => ?_)
    refine nx_iinc [some (.ref m), some (.int a1), some (.int a2), some (.int a3), some (.int (s11.1 + iz 1))] dX8_seatOne_85 rfl rfl (Nat.le_of_ble_eq_true rfl) rfl rfl ?_
    refine nx_goto (q := 64) dX8_seatOne_88 (by decide) ?_
    obtain ⟨_, _⟩ := s11
    exact nx_leaf rfl
set_option maxRecDepth 4000 in
theorem jM_seatOne {Γ : nx_G} {M0 : nx_M} {m : Nat} (u : Nat) (g : mS) (a1 : Int32) (a2 : Int32) (a3 : Int32)   (X : nx_X) (Z : nx_Z) : nx_J Γ X (RX8, cX8_seatOne, 5, none, "seatOne", 2) Z (fun r0 : mS => .inr (none, (mW Γ M0 m r0))) (.inl (0, [some (.ref m), some (.int a1), some (.int a2), some (.int a3), none], [], (mW Γ M0 m g))) (fM_seatOne u g a1 a2 a3) := by
  unfold fM_seatOne
  refine nx_iconst dX8_seatOne_0 rfl ?_
  refine nx_istore [some (.ref m), some (.int a1), some (.int a2), some (.int a3), some (.int (iz 0))] dX8_seatOne_1 rfl (Nat.le_of_ble_eq_true rfl) rfl rfl ?_
  refine nx_seq (C1 := fun e4 : mS => .inl (28, [some (.ref m), some (.int a1), some (.int a2), some (.int a3), none], [], (mW Γ M0 m e4))) (nx_loop (C1 := fun s1 : Int32 × mS => .inl (3, [some (.ref m), some (.int a1), some (.int a2), some (.int a3), some (.int s1.1)], [], (mW Γ M0 m s1.2))) (fun s1 => jM_seatOne_3  u a1 a2 a3 X Z s1) ((iz 0), g)) (fun e4 => ?_)
  refine nx_aload_n rfl dX8_seatOne_28 rfl ?_
  refine nx_getf fl_8_28 mW_m rfl dX8_seatOne_29 rfl ?_
  refine nx_iload_n rfl dX8_seatOne_32 rfl ?_
  refine nx_iconst dX8_seatOne_33 rfl ?_
  refine nx_callSr [.int a1, .int (iz 0)] (fun r => .int r) (fun _ => (mW Γ M0 m e4)) cw_8_132 wd_1348 (fun r e => cM_ofSeat X.2.1  e) rfl rfl (Nat.le_of_ble_eq_true rfl) (Nat.le_of_ble_eq_true rfl) dX8_seatOne_34 rfl (fun x5 => ?_)
  refine nx_iconst dX8_seatOne_37 rfl ?_
  refine m_iast 7 ⟨Nat.le_of_ble_eq_true rfl, Nat.le_of_ble_eq_true rfl⟩ dX8_seatOne_38 rfl (fun g6 => ?_)
  refine nx_aload_n rfl dX8_seatOne_39 rfl ?_
  refine nx_getf fl_8_28 mW_m rfl dX8_seatOne_40 rfl ?_
  refine nx_iload_n rfl dX8_seatOne_43 rfl ?_
  refine nx_iconst dX8_seatOne_44 rfl ?_
  refine nx_callSr [.int a1, .int (iz 1)] (fun r => .int r) (fun _ => (mW Γ M0 m g6)) cw_8_132 wd_1348 (fun r e => cM_ofSeat X.2.1  e) rfl rfl (Nat.le_of_ble_eq_true rfl) (Nat.le_of_ble_eq_true rfl) dX8_seatOne_45 rfl (fun x7 => ?_)
  refine nx_iload_n rfl dX8_seatOne_48 rfl ?_
  refine m_iast 7 ⟨Nat.le_of_ble_eq_true rfl, Nat.le_of_ble_eq_true rfl⟩ dX8_seatOne_49 rfl (fun g8 => ?_)
  refine nx_aload_n rfl dX8_seatOne_50 rfl ?_
  refine nx_getf fl_8_28 mW_m rfl dX8_seatOne_51 rfl ?_
  refine nx_iload_n rfl dX8_seatOne_54 rfl ?_
  refine nx_iconst dX8_seatOne_55 rfl ?_
  refine nx_callSr [.int a1, .int (iz 2)] (fun r => .int r) (fun _ => (mW Γ M0 m g8)) cw_8_132 wd_1348 (fun r e => cM_ofSeat X.2.1  e) rfl rfl (Nat.le_of_ble_eq_true rfl) (Nat.le_of_ble_eq_true rfl) dX8_seatOne_56 rfl (fun x9 => ?_)
  refine nx_iload_n rfl dX8_seatOne_59 rfl ?_
  refine m_iast 7 ⟨Nat.le_of_ble_eq_true rfl, Nat.le_of_ble_eq_true rfl⟩ dX8_seatOne_60 rfl (fun g10 => ?_)
  refine nx_iconst dX8_seatOne_61 rfl ?_
  refine nx_istore [some (.ref m), some (.int a1), some (.int a2), some (.int a3), some (.int (iz 0))] dX8_seatOne_62 rfl (Nat.le_of_ble_eq_true rfl) rfl rfl ?_
  refine nx_seq (C1 := fun e14 : mS => .inl (91, [some (.ref m), some (.int a1), some (.int a2), some (.int a3), none], [], (mW Γ M0 m e14))) (nx_loop (C1 := fun s11 : Int32 × mS => .inl (64, [some (.ref m), some (.int a1), some (.int a2), some (.int a3), some (.int s11.1)], [], (mW Γ M0 m s11.2))) (fun s11 => jM_seatOne_64  u a1 a2 a3 X Z s11) ((iz 0), g10)) (fun e14 => ?_)
  refine nx_aload_n rfl dX8_seatOne_91 rfl ?_
  refine nx_iconst dX8_seatOne_92 rfl ?_
  refine nx_iload_n rfl dX8_seatOne_93 rfl ?_
  refine nx_iload_n rfl dX8_seatOne_94 rfl ?_
  refine nx_callVv [.int (iz 0), .int a1, .int a3] (fun r => (mW Γ M0 m r)) cw_8_201 cv_X8_note (fun r e => cM_note X.2.1  e) mW_m rfl rfl (Nat.le_of_ble_eq_true rfl) (Nat.le_of_ble_eq_true rfl) dX8_seatOne_95 rfl (fun g15 => ?_)
  exact nx_vret dX8_seatOne_98 rfl rfl
theorem cM_seatOne (l : Launch) {Γ : nx_G} {M0 : nx_M} {m : Nat} {u : Nat} {g : mS} {a1 : Int32} {a2 : Int32} {a3 : Int32} {r : mS}  (h : fM_seatOne u g a1 a2 a3 = some r) : nx_Ct l Γ 2 yX8_seatOne cX8_seatOne 5 none [.ref m, .int a1, .int a2, .int a3] (mW Γ M0 m g) (none, (mW Γ M0 m r)) :=
  nx_ct (out := fun r0 : mS => (none, (mW Γ M0 m r0))) [some (.ref m), some (.int a1), some (.int a2), some (.int a3), none] pn_RX8 h (Nat.le_of_ble_eq_true rfl) rfl (fun X Z _ => jM_seatOne  u g a1 a2 a3 X Z)
theorem dX8_openNow_0 : decode cX8_openNow 0 = .ok (.aload_n 0, 1) := by decide +kernel
theorem dX8_openNow_1 : decode cX8_openNow 1 = .ok (.getfield 28, 3) := by decide +kernel
theorem dX8_openNow_4 : decode cX8_openNow 4 = .ok (.sipush 606, 3) := by decide +kernel
theorem dX8_openNow_7 : decode cX8_openNow 7 = .ok (.dup2, 1) := by decide +kernel
theorem dX8_openNow_8 : decode cX8_openNow 8 = .ok (.iaload, 1) := by decide +kernel
theorem dX8_openNow_9 : decode cX8_openNow 9 = .ok (.aload_n 0, 1) := by decide +kernel
theorem dX8_openNow_10 : decode cX8_openNow 10 = .ok (.getfield 19, 3) := by decide +kernel
theorem dX8_openNow_13 : decode cX8_openNow 13 = .ok (.iconst 2, 1) := by decide +kernel
theorem dX8_openNow_14 : decode cX8_openNow 14 = .ok (.iaload, 1) := by decide +kernel
theorem dX8_openNow_15 : decode cX8_openNow 15 = .ok (.iadd, 1) := by decide +kernel
theorem dX8_openNow_16 : decode cX8_openNow 16 = .ok (.iastore, 1) := by decide +kernel
theorem dX8_openNow_17 : decode cX8_openNow 17 = .ok (.aload_n 0, 1) := by decide +kernel
theorem dX8_openNow_18 : decode cX8_openNow 18 = .ok (.iload_n 1, 1) := by decide +kernel
theorem dX8_openNow_19 : decode cX8_openNow 19 = .ok (.iload_n 2, 1) := by decide +kernel
theorem dX8_openNow_20 : decode cX8_openNow 20 = .ok (.aload_n 0, 1) := by decide +kernel
theorem dX8_openNow_21 : decode cX8_openNow 21 = .ok (.getfield 28, 3) := by decide +kernel
theorem dX8_openNow_24 : decode cX8_openNow 24 = .ok (.sipush 606, 3) := by decide +kernel
theorem dX8_openNow_27 : decode cX8_openNow 27 = .ok (.iaload, 1) := by decide +kernel
theorem dX8_openNow_28 : decode cX8_openNow 28 = .ok (.invokevirtual 244, 3) := by decide +kernel
theorem dX8_openNow_31 : decode cX8_openNow 31 = .ok (.aload_n 0, 1) := by decide +kernel
theorem dX8_openNow_32 : decode cX8_openNow 32 = .ok (.getfield 28, 3) := by decide +kernel
theorem dX8_openNow_35 : decode cX8_openNow 35 = .ok (.sipush 606, 3) := by decide +kernel
theorem dX8_openNow_38 : decode cX8_openNow 38 = .ok (.iaload, 1) := by decide +kernel
theorem dX8_openNow_39 : decode cX8_openNow 39 = .ok (.ireturn, 1) := by decide +kernel
def fM_openNow (u : Nat) (g : mS) (a1 : Int32) (a2 : Int32) : Option (Int32 × mS) :=
  (nx_rd (mlen 7) (g.1 7) (iz 606)).bind fun x1 =>
  (nx_rd (mlen 4) (g.1 4) (iz 2)).bind fun x2 =>
  (mWr g 7 (iz 606) (x1 + x2)).bind fun g3 =>
  (nx_rd (mlen 7) (g3.1 7) (iz 606)).bind fun x4 =>
  (fM_seatOne u g3 a1 a2 x4).bind fun g5 =>
  (nx_rd (mlen 7) (g5.1 7) (iz 606)).bind fun x6 =>
  some (x6, g5)
set_option maxRecDepth 4000 in
theorem jM_openNow {Γ : nx_G} {M0 : nx_M} {m : Nat} (u : Nat) (g : mS) (a1 : Int32) (a2 : Int32)   (X : nx_X) (Z : nx_Z) : nx_J Γ X (RX8, cX8_openNow, 3, (some .int), "openNow", 3) Z (fun r0 : Int32 × mS => .inr (some (.int r0.1), (mW Γ M0 m r0.2))) (.inl (0, [some (.ref m), some (.int a1), some (.int a2)], [], (mW Γ M0 m g))) (fM_openNow u g a1 a2) := by
  unfold fM_openNow
  refine nx_aload_n rfl dX8_openNow_0 rfl ?_
  refine nx_getf fl_8_28 mW_m rfl dX8_openNow_1 rfl ?_
  refine nx_sipush (by decide +kernel) dX8_openNow_4 rfl ?_
  refine nx_dup2 rfl rfl dX8_openNow_7 rfl ?_
  refine m_iald 7 ⟨Nat.le_of_ble_eq_true rfl, Nat.le_of_ble_eq_true rfl⟩ dX8_openNow_8 rfl (fun x1 => ?_)
  refine nx_aload_n rfl dX8_openNow_9 rfl ?_
  refine nx_getf fl_8_19 mW_m rfl dX8_openNow_10 rfl ?_
  refine nx_iconst dX8_openNow_13 rfl ?_
  refine m_iald 4 ⟨Nat.le_of_ble_eq_true rfl, Nat.le_of_ble_eq_true rfl⟩ dX8_openNow_14 rfl (fun x2 => ?_)
  refine nx_iadd dX8_openNow_15 rfl ?_
  refine m_iast 7 ⟨Nat.le_of_ble_eq_true rfl, Nat.le_of_ble_eq_true rfl⟩ dX8_openNow_16 rfl (fun g3 => ?_)
  refine nx_aload_n rfl dX8_openNow_17 rfl ?_
  refine nx_iload_n rfl dX8_openNow_18 rfl ?_
  refine nx_iload_n rfl dX8_openNow_19 rfl ?_
  refine nx_aload_n rfl dX8_openNow_20 rfl ?_
  refine nx_getf fl_8_28 mW_m rfl dX8_openNow_21 rfl ?_
  refine nx_sipush (by decide +kernel) dX8_openNow_24 rfl ?_
  refine m_iald 7 ⟨Nat.le_of_ble_eq_true rfl, Nat.le_of_ble_eq_true rfl⟩ dX8_openNow_27 rfl (fun x4 => ?_)
  refine nx_callVv [.int a1, .int a2, .int x4] (fun r => (mW Γ M0 m r)) cw_8_244 cv_X8_seatOne (fun r e => cM_seatOne X.2.1  e) mW_m rfl rfl (Nat.le_of_ble_eq_true rfl) (Nat.le_of_ble_eq_true rfl) dX8_openNow_28 rfl (fun g5 => ?_)
  refine nx_aload_n rfl dX8_openNow_31 rfl ?_
  refine nx_getf fl_8_28 mW_m rfl dX8_openNow_32 rfl ?_
  refine nx_sipush (by decide +kernel) dX8_openNow_35 rfl ?_
  refine m_iald 7 ⟨Nat.le_of_ble_eq_true rfl, Nat.le_of_ble_eq_true rfl⟩ dX8_openNow_38 rfl (fun x6 => ?_)
  exact nx_iret dX8_openNow_39 rfl rfl
theorem cM_openNow (l : Launch) {Γ : nx_G} {M0 : nx_M} {m : Nat} {u : Nat} {g : mS} {a1 : Int32} {a2 : Int32} {r : Int32 × mS}  (h : fM_openNow u g a1 a2 = some r) : nx_Ct l Γ 3 yX8_openNow cX8_openNow 3 (some .int) [.ref m, .int a1, .int a2] (mW Γ M0 m g) (some (.int r.1), (mW Γ M0 m r.2)) :=
  nx_ct (out := fun r0 : Int32 × mS => (some (.int r0.1), (mW Γ M0 m r0.2))) [some (.ref m), some (.int a1), some (.int a2)] pn_RX8 h (Nat.le_of_ble_eq_true rfl) rfl (fun X Z _ => jM_openNow  u g a1 a2 X Z)
theorem dX8_openAtNow_0 : decode cX8_openAtNow 0 = .ok (.aload_n 0, 1) := by decide +kernel
theorem dX8_openAtNow_1 : decode cX8_openAtNow 1 = .ok (.getfield 28, 3) := by decide +kernel
theorem dX8_openAtNow_4 : decode cX8_openAtNow 4 = .ok (.sipush 608, 3) := by decide +kernel
theorem dX8_openAtNow_7 : decode cX8_openAtNow 7 = .ok (.dup2, 1) := by decide +kernel
theorem dX8_openAtNow_8 : decode cX8_openAtNow 8 = .ok (.iaload, 1) := by decide +kernel
theorem dX8_openAtNow_9 : decode cX8_openAtNow 9 = .ok (.iconst 1, 1) := by decide +kernel
theorem dX8_openAtNow_10 : decode cX8_openAtNow 10 = .ok (.iadd, 1) := by decide +kernel
theorem dX8_openAtNow_11 : decode cX8_openAtNow 11 = .ok (.iastore, 1) := by decide +kernel
theorem dX8_openAtNow_12 : decode cX8_openAtNow 12 = .ok (.aload_n 0, 1) := by decide +kernel
theorem dX8_openAtNow_13 : decode cX8_openAtNow 13 = .ok (.getfield 28, 3) := by decide +kernel
theorem dX8_openAtNow_16 : decode cX8_openAtNow 16 = .ok (.sipush 608, 3) := by decide +kernel
theorem dX8_openAtNow_19 : decode cX8_openAtNow 19 = .ok (.aload_n 0, 1) := by decide +kernel
theorem dX8_openAtNow_20 : decode cX8_openAtNow 20 = .ok (.getfield 28, 3) := by decide +kernel
theorem dX8_openAtNow_23 : decode cX8_openAtNow 23 = .ok (.sipush 608, 3) := by decide +kernel
theorem dX8_openAtNow_26 : decode cX8_openAtNow 26 = .ok (.iaload, 1) := by decide +kernel
theorem dX8_openAtNow_27 : decode cX8_openAtNow 27 = .ok (.iadd, 1) := by decide +kernel
theorem dX8_openAtNow_28 : decode cX8_openAtNow 28 = .ok (.iload_n 3, 1) := by decide +kernel
theorem dX8_openAtNow_29 : decode cX8_openAtNow 29 = .ok (.iastore, 1) := by decide +kernel
theorem dX8_openAtNow_30 : decode cX8_openAtNow 30 = .ok (.aload_n 0, 1) := by decide +kernel
theorem dX8_openAtNow_31 : decode cX8_openAtNow 31 = .ok (.iload_n 1, 1) := by decide +kernel
theorem dX8_openAtNow_32 : decode cX8_openAtNow 32 = .ok (.iload_n 2, 1) := by decide +kernel
theorem dX8_openAtNow_33 : decode cX8_openAtNow 33 = .ok (.iload_n 3, 1) := by decide +kernel
theorem dX8_openAtNow_34 : decode cX8_openAtNow 34 = .ok (.invokevirtual 244, 3) := by decide +kernel
theorem dX8_openAtNow_37 : decode cX8_openAtNow 37 = .ok (.iload_n 3, 1) := by decide +kernel
theorem dX8_openAtNow_38 : decode cX8_openAtNow 38 = .ok (.ireturn, 1) := by decide +kernel
def fM_openAtNow (u : Nat) (g : mS) (a1 : Int32) (a2 : Int32) (a3 : Int32) : Option (Int32 × mS) :=
  (nx_rd (mlen 7) (g.1 7) (iz 608)).bind fun x1 =>
  (mWr g 7 (iz 608) (x1 + (iz 1))).bind fun g2 =>
  (nx_rd (mlen 7) (g2.1 7) (iz 608)).bind fun x3 =>
  (mWr g2 7 ((iz 608) + x3) a3).bind fun g4 =>
  (fM_seatOne u g4 a1 a2 a3).bind fun g5 =>
  some (a3, g5)
set_option maxRecDepth 4000 in
theorem jM_openAtNow {Γ : nx_G} {M0 : nx_M} {m : Nat} (u : Nat) (g : mS) (a1 : Int32) (a2 : Int32) (a3 : Int32)   (X : nx_X) (Z : nx_Z) : nx_J Γ X (RX8, cX8_openAtNow, 4, (some .int), "openAtNow", 3) Z (fun r0 : Int32 × mS => .inr (some (.int r0.1), (mW Γ M0 m r0.2))) (.inl (0, [some (.ref m), some (.int a1), some (.int a2), some (.int a3)], [], (mW Γ M0 m g))) (fM_openAtNow u g a1 a2 a3) := by
  unfold fM_openAtNow
  refine nx_aload_n rfl dX8_openAtNow_0 rfl ?_
  refine nx_getf fl_8_28 mW_m rfl dX8_openAtNow_1 rfl ?_
  refine nx_sipush (by decide +kernel) dX8_openAtNow_4 rfl ?_
  refine nx_dup2 rfl rfl dX8_openAtNow_7 rfl ?_
  refine m_iald 7 ⟨Nat.le_of_ble_eq_true rfl, Nat.le_of_ble_eq_true rfl⟩ dX8_openAtNow_8 rfl (fun x1 => ?_)
  refine nx_iconst dX8_openAtNow_9 rfl ?_
  refine nx_iadd dX8_openAtNow_10 rfl ?_
  refine m_iast 7 ⟨Nat.le_of_ble_eq_true rfl, Nat.le_of_ble_eq_true rfl⟩ dX8_openAtNow_11 rfl (fun g2 => ?_)
  refine nx_aload_n rfl dX8_openAtNow_12 rfl ?_
  refine nx_getf fl_8_28 mW_m rfl dX8_openAtNow_13 rfl ?_
  refine nx_sipush (by decide +kernel) dX8_openAtNow_16 rfl ?_
  refine nx_aload_n rfl dX8_openAtNow_19 rfl ?_
  refine nx_getf fl_8_28 mW_m rfl dX8_openAtNow_20 rfl ?_
  refine nx_sipush (by decide +kernel) dX8_openAtNow_23 rfl ?_
  refine m_iald 7 ⟨Nat.le_of_ble_eq_true rfl, Nat.le_of_ble_eq_true rfl⟩ dX8_openAtNow_26 rfl (fun x3 => ?_)
  refine nx_iadd dX8_openAtNow_27 rfl ?_
  refine nx_iload_n rfl dX8_openAtNow_28 rfl ?_
  refine m_iast 7 ⟨Nat.le_of_ble_eq_true rfl, Nat.le_of_ble_eq_true rfl⟩ dX8_openAtNow_29 rfl (fun g4 => ?_)
  refine nx_aload_n rfl dX8_openAtNow_30 rfl ?_
  refine nx_iload_n rfl dX8_openAtNow_31 rfl ?_
  refine nx_iload_n rfl dX8_openAtNow_32 rfl ?_
  refine nx_iload_n rfl dX8_openAtNow_33 rfl ?_
  refine nx_callVv [.int a1, .int a2, .int a3] (fun r => (mW Γ M0 m r)) cw_8_244 cv_X8_seatOne (fun r e => cM_seatOne X.2.1  e) mW_m rfl rfl (Nat.le_of_ble_eq_true rfl) (Nat.le_of_ble_eq_true rfl) dX8_openAtNow_34 rfl (fun g5 => ?_)
  refine nx_iload_n rfl dX8_openAtNow_37 rfl ?_
  exact nx_iret dX8_openAtNow_38 rfl rfl
theorem cM_openAtNow (l : Launch) {Γ : nx_G} {M0 : nx_M} {m : Nat} {u : Nat} {g : mS} {a1 : Int32} {a2 : Int32} {a3 : Int32} {r : Int32 × mS}  (h : fM_openAtNow u g a1 a2 a3 = some r) : nx_Ct l Γ 3 yX8_openAtNow cX8_openAtNow 4 (some .int) [.ref m, .int a1, .int a2, .int a3] (mW Γ M0 m g) (some (.int r.1), (mW Γ M0 m r.2)) :=
  nx_ct (out := fun r0 : Int32 × mS => (some (.int r0.1), (mW Γ M0 m r0.2))) [some (.ref m), some (.int a1), some (.int a2), some (.int a3)] pn_RX8 h (Nat.le_of_ble_eq_true rfl) rfl (fun X Z _ => jM_openAtNow  u g a1 a2 a3 X Z)
theorem dX8_addDeed_0 : decode cX8_addDeed 0 = .ok (.aload_n 0, 1) := by decide +kernel
theorem dX8_addDeed_1 : decode cX8_addDeed 1 = .ok (.iload_n 1, 1) := by decide +kernel
theorem dX8_addDeed_2 : decode cX8_addDeed 2 = .ok (.bipush 11, 2) := by decide +kernel
theorem dX8_addDeed_4 : decode cX8_addDeed 4 = .ok (.invokevirtual 165, 3) := by decide +kernel
theorem dX8_addDeed_7 : decode cX8_addDeed 7 = .ok (.istore 5, 2) := by decide +kernel
theorem dX8_addDeed_9 : decode cX8_addDeed 9 = .ok (.iload 5, 2) := by decide +kernel
theorem dX8_addDeed_11 : decode cX8_addDeed 11 = .ok (.bipush 12, 2) := by decide +kernel
theorem dX8_addDeed_13 : decode cX8_addDeed 13 = .ok (.if_icmp .ne 4, 3) := by decide +kernel
theorem dX8_addDeed_16 : decode cX8_addDeed 16 = .ok (.return_, 1) := by decide +kernel
theorem dX8_addDeed_17 : decode cX8_addDeed 17 = .ok (.aload_n 0, 1) := by decide +kernel
theorem dX8_addDeed_18 : decode cX8_addDeed 18 = .ok (.getfield 28, 3) := by decide +kernel
theorem dX8_addDeed_21 : decode cX8_addDeed 21 = .ok (.iload_n 1, 1) := by decide +kernel
theorem dX8_addDeed_22 : decode cX8_addDeed 22 = .ok (.bipush 12, 2) := by decide +kernel
theorem dX8_addDeed_24 : decode cX8_addDeed 24 = .ok (.iconst 3, 1) := by decide +kernel
theorem dX8_addDeed_25 : decode cX8_addDeed 25 = .ok (.iload 5, 2) := by decide +kernel
theorem dX8_addDeed_27 : decode cX8_addDeed 27 = .ok (.imul, 1) := by decide +kernel
theorem dX8_addDeed_28 : decode cX8_addDeed 28 = .ok (.iadd, 1) := by decide +kernel
theorem dX8_addDeed_29 : decode cX8_addDeed 29 = .ok (.invokestatic 132, 3) := by decide +kernel
theorem dX8_addDeed_32 : decode cX8_addDeed 32 = .ok (.iload_n 2, 1) := by decide +kernel
theorem dX8_addDeed_33 : decode cX8_addDeed 33 = .ok (.iastore, 1) := by decide +kernel
theorem dX8_addDeed_34 : decode cX8_addDeed 34 = .ok (.aload_n 0, 1) := by decide +kernel
theorem dX8_addDeed_35 : decode cX8_addDeed 35 = .ok (.getfield 28, 3) := by decide +kernel
theorem dX8_addDeed_38 : decode cX8_addDeed 38 = .ok (.iload_n 1, 1) := by decide +kernel
theorem dX8_addDeed_39 : decode cX8_addDeed 39 = .ok (.bipush 13, 2) := by decide +kernel
theorem dX8_addDeed_41 : decode cX8_addDeed 41 = .ok (.iconst 3, 1) := by decide +kernel
theorem dX8_addDeed_42 : decode cX8_addDeed 42 = .ok (.iload 5, 2) := by decide +kernel
theorem dX8_addDeed_44 : decode cX8_addDeed 44 = .ok (.imul, 1) := by decide +kernel
theorem dX8_addDeed_45 : decode cX8_addDeed 45 = .ok (.iadd, 1) := by decide +kernel
theorem dX8_addDeed_46 : decode cX8_addDeed 46 = .ok (.invokestatic 132, 3) := by decide +kernel
theorem dX8_addDeed_49 : decode cX8_addDeed 49 = .ok (.iload_n 3, 1) := by decide +kernel
theorem dX8_addDeed_50 : decode cX8_addDeed 50 = .ok (.iastore, 1) := by decide +kernel
theorem dX8_addDeed_51 : decode cX8_addDeed 51 = .ok (.aload_n 0, 1) := by decide +kernel
theorem dX8_addDeed_52 : decode cX8_addDeed 52 = .ok (.getfield 28, 3) := by decide +kernel
theorem dX8_addDeed_55 : decode cX8_addDeed 55 = .ok (.iload_n 1, 1) := by decide +kernel
theorem dX8_addDeed_56 : decode cX8_addDeed 56 = .ok (.bipush 14, 2) := by decide +kernel
theorem dX8_addDeed_58 : decode cX8_addDeed 58 = .ok (.iconst 3, 1) := by decide +kernel
theorem dX8_addDeed_59 : decode cX8_addDeed 59 = .ok (.iload 5, 2) := by decide +kernel
theorem dX8_addDeed_61 : decode cX8_addDeed 61 = .ok (.imul, 1) := by decide +kernel
theorem dX8_addDeed_62 : decode cX8_addDeed 62 = .ok (.iadd, 1) := by decide +kernel
theorem dX8_addDeed_63 : decode cX8_addDeed 63 = .ok (.invokestatic 132, 3) := by decide +kernel
theorem dX8_addDeed_66 : decode cX8_addDeed 66 = .ok (.iload 4, 2) := by decide +kernel
theorem dX8_addDeed_68 : decode cX8_addDeed 68 = .ok (.iastore, 1) := by decide +kernel
theorem dX8_addDeed_69 : decode cX8_addDeed 69 = .ok (.aload_n 0, 1) := by decide +kernel
theorem dX8_addDeed_70 : decode cX8_addDeed 70 = .ok (.getfield 28, 3) := by decide +kernel
theorem dX8_addDeed_73 : decode cX8_addDeed 73 = .ok (.iload_n 1, 1) := by decide +kernel
theorem dX8_addDeed_74 : decode cX8_addDeed 74 = .ok (.bipush 11, 2) := by decide +kernel
theorem dX8_addDeed_76 : decode cX8_addDeed 76 = .ok (.invokestatic 132, 3) := by decide +kernel
theorem dX8_addDeed_79 : decode cX8_addDeed 79 = .ok (.dup2, 1) := by decide +kernel
theorem dX8_addDeed_80 : decode cX8_addDeed 80 = .ok (.iaload, 1) := by decide +kernel
theorem dX8_addDeed_81 : decode cX8_addDeed 81 = .ok (.iconst 1, 1) := by decide +kernel
theorem dX8_addDeed_82 : decode cX8_addDeed 82 = .ok (.iadd, 1) := by decide +kernel
theorem dX8_addDeed_83 : decode cX8_addDeed 83 = .ok (.iastore, 1) := by decide +kernel
theorem dX8_addDeed_84 : decode cX8_addDeed 84 = .ok (.return_, 1) := by decide +kernel
def fM_addDeed (u : Nat) (g : mS) (a1 : Int32) (a2 : Int32) (a3 : Int32) (a4 : Int32) : Option (mS) :=
  (fM_of u g a1 (iz 11)).bind fun x1 =>
  if x1 = (iz 12) then
    some g
  else
    (fM_ofSeat u a1 ((iz 12) + ((iz 3) * x1))).bind fun x2 =>
    (mWr g 7 x2 a2).bind fun g3 =>
    (fM_ofSeat u a1 ((iz 13) + ((iz 3) * x1))).bind fun x4 =>
    (mWr g3 7 x4 a3).bind fun g5 =>
    (fM_ofSeat u a1 ((iz 14) + ((iz 3) * x1))).bind fun x6 =>
    (mWr g5 7 x6 a4).bind fun g7 =>
    (fM_ofSeat u a1 (iz 11)).bind fun x8 =>
    (nx_rd (mlen 7) (g7.1 7) x8).bind fun x9 =>
    (mWr g7 7 x8 (x9 + (iz 1))).bind fun g10 =>
    some g10
set_option maxRecDepth 4000 in
theorem jM_addDeed {Γ : nx_G} {M0 : nx_M} {m : Nat} (u : Nat) (g : mS) (a1 : Int32) (a2 : Int32) (a3 : Int32) (a4 : Int32)   (X : nx_X) (Z : nx_Z) : nx_J Γ X (RX8, cX8_addDeed, 6, none, "addDeed", 3) Z (fun r0 : mS => .inr (none, (mW Γ M0 m r0))) (.inl (0, [some (.ref m), some (.int a1), some (.int a2), some (.int a3), some (.int a4), none], [], (mW Γ M0 m g))) (fM_addDeed u g a1 a2 a3 a4) := by
  unfold fM_addDeed
  refine nx_aload_n rfl dX8_addDeed_0 rfl ?_
  refine nx_iload_n rfl dX8_addDeed_1 rfl ?_
  refine nx_bipush (by decide +kernel) dX8_addDeed_2 rfl ?_
  refine nx_callVr [.int a1, .int (iz 11)] (fun r => .int r) (fun _ => (mW Γ M0 m g)) cw_8_165 cv_X8_of (fun r e => cM_of X.2.1  e) mW_m rfl rfl (Nat.le_of_ble_eq_true rfl) (Nat.le_of_ble_eq_true rfl) dX8_addDeed_4 rfl (fun x1 => ?_)
  refine nx_istore [some (.ref m), some (.int a1), some (.int a2), some (.int a3), some (.int a4), some (.int x1)] dX8_addDeed_7 rfl (Nat.le_of_ble_eq_true rfl) rfl rfl ?_
  refine nx_iload rfl dX8_addDeed_9 rfl ?_
  refine nx_bipush (by decide +kernel) dX8_addDeed_11 rfl ?_
  refine nx_icmp_ne (t := 17) dX8_addDeed_13 (by decide) rfl ?_ ?_
  · refine nx_aload_n rfl dX8_addDeed_17 rfl ?_
    refine nx_getf fl_8_28 mW_m rfl dX8_addDeed_18 rfl ?_
    refine nx_iload_n rfl dX8_addDeed_21 rfl ?_
    refine nx_bipush (by decide +kernel) dX8_addDeed_22 rfl ?_
    refine nx_iconst dX8_addDeed_24 rfl ?_
    refine nx_iload rfl dX8_addDeed_25 rfl ?_
    refine nx_imul dX8_addDeed_27 rfl ?_
    refine nx_iadd dX8_addDeed_28 rfl ?_
    refine nx_callSr [.int a1, .int ((iz 12) + ((iz 3) * x1))] (fun r => .int r) (fun _ => (mW Γ M0 m g)) cw_8_132 wd_1348 (fun r e => cM_ofSeat X.2.1  e) rfl rfl (Nat.le_of_ble_eq_true rfl) (Nat.le_of_ble_eq_true rfl) dX8_addDeed_29 rfl (fun x2 => ?_)
    refine nx_iload_n rfl dX8_addDeed_32 rfl ?_
    refine m_iast 7 ⟨Nat.le_of_ble_eq_true rfl, Nat.le_of_ble_eq_true rfl⟩ dX8_addDeed_33 rfl (fun g3 => ?_)
    refine nx_aload_n rfl dX8_addDeed_34 rfl ?_
    refine nx_getf fl_8_28 mW_m rfl dX8_addDeed_35 rfl ?_
    refine nx_iload_n rfl dX8_addDeed_38 rfl ?_
    refine nx_bipush (by decide +kernel) dX8_addDeed_39 rfl ?_
    refine nx_iconst dX8_addDeed_41 rfl ?_
    refine nx_iload rfl dX8_addDeed_42 rfl ?_
    refine nx_imul dX8_addDeed_44 rfl ?_
    refine nx_iadd dX8_addDeed_45 rfl ?_
    refine nx_callSr [.int a1, .int ((iz 13) + ((iz 3) * x1))] (fun r => .int r) (fun _ => (mW Γ M0 m g3)) cw_8_132 wd_1348 (fun r e => cM_ofSeat X.2.1  e) rfl rfl (Nat.le_of_ble_eq_true rfl) (Nat.le_of_ble_eq_true rfl) dX8_addDeed_46 rfl (fun x4 => ?_)
    refine nx_iload_n rfl dX8_addDeed_49 rfl ?_
    refine m_iast 7 ⟨Nat.le_of_ble_eq_true rfl, Nat.le_of_ble_eq_true rfl⟩ dX8_addDeed_50 rfl (fun g5 => ?_)
    refine nx_aload_n rfl dX8_addDeed_51 rfl ?_
    refine nx_getf fl_8_28 mW_m rfl dX8_addDeed_52 rfl ?_
    refine nx_iload_n rfl dX8_addDeed_55 rfl ?_
    refine nx_bipush (by decide +kernel) dX8_addDeed_56 rfl ?_
    refine nx_iconst dX8_addDeed_58 rfl ?_
    refine nx_iload rfl dX8_addDeed_59 rfl ?_
    refine nx_imul dX8_addDeed_61 rfl ?_
    refine nx_iadd dX8_addDeed_62 rfl ?_
    refine nx_callSr [.int a1, .int ((iz 14) + ((iz 3) * x1))] (fun r => .int r) (fun _ => (mW Γ M0 m g5)) cw_8_132 wd_1348 (fun r e => cM_ofSeat X.2.1  e) rfl rfl (Nat.le_of_ble_eq_true rfl) (Nat.le_of_ble_eq_true rfl) dX8_addDeed_63 rfl (fun x6 => ?_)
    refine nx_iload rfl dX8_addDeed_66 rfl ?_
    refine m_iast 7 ⟨Nat.le_of_ble_eq_true rfl, Nat.le_of_ble_eq_true rfl⟩ dX8_addDeed_68 rfl (fun g7 => ?_)
    refine nx_aload_n rfl dX8_addDeed_69 rfl ?_
    refine nx_getf fl_8_28 mW_m rfl dX8_addDeed_70 rfl ?_
    refine nx_iload_n rfl dX8_addDeed_73 rfl ?_
    refine nx_bipush (by decide +kernel) dX8_addDeed_74 rfl ?_
    refine nx_callSr [.int a1, .int (iz 11)] (fun r => .int r) (fun _ => (mW Γ M0 m g7)) cw_8_132 wd_1348 (fun r e => cM_ofSeat X.2.1  e) rfl rfl (Nat.le_of_ble_eq_true rfl) (Nat.le_of_ble_eq_true rfl) dX8_addDeed_76 rfl (fun x8 => ?_)
    refine nx_dup2 rfl rfl dX8_addDeed_79 rfl ?_
    refine m_iald 7 ⟨Nat.le_of_ble_eq_true rfl, Nat.le_of_ble_eq_true rfl⟩ dX8_addDeed_80 rfl (fun x9 => ?_)
    refine nx_iconst dX8_addDeed_81 rfl ?_
    refine nx_iadd dX8_addDeed_82 rfl ?_
    refine m_iast 7 ⟨Nat.le_of_ble_eq_true rfl, Nat.le_of_ble_eq_true rfl⟩ dX8_addDeed_83 rfl (fun g10 => ?_)
    exact nx_vret dX8_addDeed_84 rfl rfl
  · exact nx_vret dX8_addDeed_16 rfl rfl
theorem cM_addDeed (l : Launch) {Γ : nx_G} {M0 : nx_M} {m : Nat} {u : Nat} {g : mS} {a1 : Int32} {a2 : Int32} {a3 : Int32} {a4 : Int32} {r : mS}  (h : fM_addDeed u g a1 a2 a3 a4 = some r) : nx_Ct l Γ 3 yX8_addDeed cX8_addDeed 6 none [.ref m, .int a1, .int a2, .int a3, .int a4] (mW Γ M0 m g) (none, (mW Γ M0 m r)) :=
  nx_ct (out := fun r0 : mS => (none, (mW Γ M0 m r0))) [some (.ref m), some (.int a1), some (.int a2), some (.int a3), some (.int a4), none] pn_RX8 h (Nat.le_of_ble_eq_true rfl) rfl (fun X Z _ => jM_addDeed  u g a1 a2 a3 a4 X Z)
theorem dX8_doom_0 : decode cX8_doom 0 = .ok (.iconst 0, 1) := by decide +kernel
theorem dX8_doom_1 : decode cX8_doom 1 = .ok (.istore 4, 2) := by decide +kernel
theorem dX8_doom_3 : decode cX8_doom 3 = .ok (.iload 4, 2) := by decide +kernel
theorem dX8_doom_5 : decode cX8_doom 5 = .ok (.aload_n 0, 1) := by decide +kernel
theorem dX8_doom_6 : decode cX8_doom 6 = .ok (.iload_n 2, 1) := by decide +kernel
theorem dX8_doom_7 : decode cX8_doom 7 = .ok (.invokevirtual 171, 3) := by decide +kernel
theorem dX8_doom_10 : decode cX8_doom 10 = .ok (.if_icmp .ge 66, 3) := by decide +kernel
theorem dX8_doom_13 : decode cX8_doom 13 = .ok (.aload_n 0, 1) := by decide +kernel
theorem dX8_doom_14 : decode cX8_doom 14 = .ok (.iload_n 2, 1) := by decide +kernel
theorem dX8_doom_15 : decode cX8_doom 15 = .ok (.iload 4, 2) := by decide +kernel
theorem dX8_doom_17 : decode cX8_doom 17 = .ok (.iconst 4, 1) := by decide +kernel
theorem dX8_doom_18 : decode cX8_doom 18 = .ok (.invokevirtual 174, 3) := by decide +kernel
theorem dX8_doom_21 : decode cX8_doom 21 = .ok (.istore 5, 2) := by decide +kernel
theorem dX8_doom_23 : decode cX8_doom 23 = .ok (.iload 5, 2) := by decide +kernel
theorem dX8_doom_25 : decode cX8_doom 25 = .ok (.iconst (-1), 1) := by decide +kernel
theorem dX8_doom_26 : decode cX8_doom 26 = .ok (.if_icmp .eq 44, 3) := by decide +kernel
theorem dX8_doom_29 : decode cX8_doom 29 = .ok (.aload_n 0, 1) := by decide +kernel
theorem dX8_doom_30 : decode cX8_doom 30 = .ok (.iload_n 2, 1) := by decide +kernel
theorem dX8_doom_31 : decode cX8_doom 31 = .ok (.iload 4, 2) := by decide +kernel
theorem dX8_doom_33 : decode cX8_doom 33 = .ok (.iconst 1, 1) := by decide +kernel
theorem dX8_doom_34 : decode cX8_doom 34 = .ok (.invokevirtual 174, 3) := by decide +kernel
theorem dX8_doom_37 : decode cX8_doom 37 = .ok (.iload_n 3, 1) := by decide +kernel
theorem dX8_doom_38 : decode cX8_doom 38 = .ok (.if_icmp .le 32, 3) := by decide +kernel
theorem dX8_doom_41 : decode cX8_doom 41 = .ok (.aload_n 0, 1) := by decide +kernel
theorem dX8_doom_42 : decode cX8_doom 42 = .ok (.iload_n 2, 1) := by decide +kernel
theorem dX8_doom_43 : decode cX8_doom 43 = .ok (.iload 4, 2) := by decide +kernel
theorem dX8_doom_45 : decode cX8_doom 45 = .ok (.iconst 1, 1) := by decide +kernel
theorem dX8_doom_46 : decode cX8_doom 46 = .ok (.invokevirtual 174, 3) := by decide +kernel
theorem dX8_doom_49 : decode cX8_doom 49 = .ok (.aload_n 0, 1) := by decide +kernel
theorem dX8_doom_50 : decode cX8_doom 50 = .ok (.iload_n 1, 1) := by decide +kernel
theorem dX8_doom_51 : decode cX8_doom 51 = .ok (.iconst 1, 1) := by decide +kernel
theorem dX8_doom_52 : decode cX8_doom 52 = .ok (.invokevirtual 165, 3) := by decide +kernel
theorem dX8_doom_55 : decode cX8_doom 55 = .ok (.if_icmp .ge 15, 3) := by decide +kernel
theorem dX8_doom_58 : decode cX8_doom 58 = .ok (.aload_n 0, 1) := by decide +kernel
theorem dX8_doom_59 : decode cX8_doom 59 = .ok (.getfield 28, 3) := by decide +kernel
theorem dX8_doom_62 : decode cX8_doom 62 = .ok (.iload 5, 2) := by decide +kernel
theorem dX8_doom_64 : decode cX8_doom 64 = .ok (.iconst 4, 1) := by decide +kernel
theorem dX8_doom_65 : decode cX8_doom 65 = .ok (.invokestatic 132, 3) := by decide +kernel
theorem dX8_doom_68 : decode cX8_doom 68 = .ok (.iconst 1, 1) := by decide +kernel
theorem dX8_doom_69 : decode cX8_doom 69 = .ok (.iastore, 1) := by decide +kernel
theorem dX8_doom_70 : decode cX8_doom 70 = .ok (.iinc 4 1, 3) := by decide +kernel
theorem dX8_doom_73 : decode cX8_doom 73 = .ok (.goto (-70), 3) := by decide +kernel
theorem dX8_doom_76 : decode cX8_doom 76 = .ok (.return_, 1) := by decide +kernel
def fM_doom_3 (u : Nat) (a1 : Int32) (a2 : Int32) (a3 : Int32) (s1 : Int32 × mS) : Option ((Int32 × mS) ⊕ (mS)) :=
  (fM_many u s1.2 a2).bind fun x2 =>
  if x2 ≤ s1.1 then
    some (.inr s1.2)
  else
    (fM_its u s1.2 a2 s1.1 (iz 4)).bind fun x3 =>
    (if x3 = (iz (-1)) then
       some s1.2
     else
       (fM_its u s1.2 a2 s1.1 (iz 1)).bind fun x4 =>
       if x4 ≤ a3 then
         some s1.2
       else
         (fM_its u s1.2 a2 s1.1 (iz 1)).bind fun x5 =>
         (fM_of u s1.2 a1 (iz 1)).bind fun x6 =>
         if x6 ≤ x5 then
           some s1.2
         else
           (fM_ofSeat u x3 (iz 4)).bind fun x7 =>
           (mWr s1.2 7 x7 (iz 1)).bind fun g8 =>
           some g8 : Option (mS)).bind fun s9 =>
    some (.inl ((s1.1 + iz 1), s9))
def fM_doom (u : Nat) (g : mS) (a1 : Int32) (a2 : Int32) (a3 : Int32) : Option (mS) :=
  (nx_iter u (fM_doom_3 u a1 a2 a3) ((iz 0), g)).bind fun e10 =>
  some e10
set_option maxRecDepth 4000 in
theorem jM_doom_3 {Γ : nx_G} {M0 : nx_M} {m : Nat} (u : Nat) (a1 : Int32) (a2 : Int32) (a3 : Int32)   (X : nx_X) (Z : nx_Z) (s1 : Int32 × mS) : nx_J Γ X (RX8, cX8_doom, 6, none, "doom", 3) Z (Sum.elim (fun s1 : Int32 × mS => .inl (3, [some (.ref m), some (.int a1), some (.int a2), some (.int a3), some (.int s1.1), none], [], (mW Γ M0 m s1.2))) (fun e10 : mS => .inl (76, [some (.ref m), some (.int a1), some (.int a2), some (.int a3), none, none], [], (mW Γ M0 m e10)))) (.inl (3, [some (.ref m), some (.int a1), some (.int a2), some (.int a3), some (.int s1.1), none], [], (mW Γ M0 m s1.2))) (fM_doom_3 u a1 a2 a3 s1) := by
  unfold fM_doom_3
  refine nx_iload rfl dX8_doom_3 rfl ?_
  refine nx_aload_n rfl dX8_doom_5 rfl ?_
  refine nx_iload_n rfl dX8_doom_6 rfl ?_
  refine nx_callVr [.int a2] (fun r => .int r) (fun _ => (mW Γ M0 m s1.2)) cw_8_171 cv_X8_many (fun r e => cM_many X.2.1  e) mW_m rfl rfl (Nat.le_of_ble_eq_true rfl) (Nat.le_of_ble_eq_true rfl) dX8_doom_7 rfl (fun x2 => ?_)
  refine nx_icmp_ge (t := 76) dX8_doom_10 (by decide) rfl ?_ ?_
  · refine nx_weak (ls' := [some (.ref m), some (.int a1), some (.int a2), some (.int a3), none, none]) (nx_wk_s (nx_wk_s (nx_wk_s (nx_wk_s (nx_wk_n (nx_wk_n nx_wk_e)))))) ?_
    obtain ⟨_, _⟩ := s1
    exact nx_leaf rfl
  · refine nx_aload_n rfl dX8_doom_13 rfl ?_
    refine nx_iload_n rfl dX8_doom_14 rfl ?_
    refine nx_iload rfl dX8_doom_15 rfl ?_
    refine nx_iconst dX8_doom_17 rfl ?_
    refine nx_callVr [.int a2, .int s1.1, .int (iz 4)] (fun r => .int r) (fun _ => (mW Γ M0 m s1.2)) cw_8_174 cv_X8_its (fun r e => cM_its X.2.1  e) mW_m rfl rfl (Nat.le_of_ble_eq_true rfl) (Nat.le_of_ble_eq_true rfl) dX8_doom_18 rfl (fun x3 => ?_)
    refine nx_istore [some (.ref m), some (.int a1), some (.int a2), some (.int a3), some (.int s1.1), some (.int x3)] dX8_doom_21 rfl (Nat.le_of_ble_eq_true rfl) rfl rfl ?_
    refine nx_iload rfl dX8_doom_23 rfl ?_
    refine nx_iconst dX8_doom_25 rfl ?_
    refine nx_seq (C1 := fun s9 : mS => .inl (70, [some (.ref m), some (.int a1), some (.int a2), some (.int a3), some (.int s1.1), some (.int x3)], [], (mW Γ M0 m s9))) ?_ (fun s9 => ?_)
    · refine nx_icmp_eq (t := 70) dX8_doom_26 (by decide) rfl ?_ ?_
      · obtain ⟨_, _⟩ := s1
        exact nx_leaf rfl
      · refine nx_aload_n rfl dX8_doom_29 rfl ?_
        refine nx_iload_n rfl dX8_doom_30 rfl ?_
        refine nx_iload rfl dX8_doom_31 rfl ?_
        refine nx_iconst dX8_doom_33 rfl ?_
        refine nx_callVr [.int a2, .int s1.1, .int (iz 1)] (fun r => .int r) (fun _ => (mW Γ M0 m s1.2)) cw_8_174 cv_X8_its (fun r e => cM_its X.2.1  e) mW_m rfl rfl (Nat.le_of_ble_eq_true rfl) (Nat.le_of_ble_eq_true rfl) dX8_doom_34 rfl (fun x4 => ?_)
        refine nx_iload_n rfl dX8_doom_37 rfl ?_
        refine nx_icmp_le (t := 70) dX8_doom_38 (by decide) rfl ?_ ?_
        · obtain ⟨_, _⟩ := s1
          exact nx_leaf rfl
        · refine nx_aload_n rfl dX8_doom_41 rfl ?_
          refine nx_iload_n rfl dX8_doom_42 rfl ?_
          refine nx_iload rfl dX8_doom_43 rfl ?_
          refine nx_iconst dX8_doom_45 rfl ?_
          refine nx_callVr [.int a2, .int s1.1, .int (iz 1)] (fun r => .int r) (fun _ => (mW Γ M0 m s1.2)) cw_8_174 cv_X8_its (fun r e => cM_its X.2.1  e) mW_m rfl rfl (Nat.le_of_ble_eq_true rfl) (Nat.le_of_ble_eq_true rfl) dX8_doom_46 rfl (fun x5 => ?_)
          refine nx_aload_n rfl dX8_doom_49 rfl ?_
          refine nx_iload_n rfl dX8_doom_50 rfl ?_
          refine nx_iconst dX8_doom_51 rfl ?_
          refine nx_callVr [.int a1, .int (iz 1)] (fun r => .int r) (fun _ => (mW Γ M0 m s1.2)) cw_8_165 cv_X8_of (fun r e => cM_of X.2.1  e) mW_m rfl rfl (Nat.le_of_ble_eq_true rfl) (Nat.le_of_ble_eq_true rfl) dX8_doom_52 rfl (fun x6 => ?_)
          refine nx_icmp_ge (t := 70) dX8_doom_55 (by decide) rfl ?_ ?_
          · obtain ⟨_, _⟩ := s1
            exact nx_leaf rfl
          · refine nx_aload_n rfl dX8_doom_58 rfl ?_
            refine nx_getf fl_8_28 mW_m rfl dX8_doom_59 rfl ?_
            refine nx_iload rfl dX8_doom_62 rfl ?_
            refine nx_iconst dX8_doom_64 rfl ?_
            refine nx_callSr [.int x3, .int (iz 4)] (fun r => .int r) (fun _ => (mW Γ M0 m s1.2)) cw_8_132 wd_1348 (fun r e => cM_ofSeat X.2.1  e) rfl rfl (Nat.le_of_ble_eq_true rfl) (Nat.le_of_ble_eq_true rfl) dX8_doom_65 rfl (fun x7 => ?_)
            refine nx_iconst dX8_doom_68 rfl ?_
            refine m_iast 7 ⟨Nat.le_of_ble_eq_true rfl, Nat.le_of_ble_eq_true rfl⟩ dX8_doom_69 rfl (fun g8 => ?_)
            obtain ⟨_, _⟩ := s1
            exact nx_leaf rfl
    refine nx_iinc [some (.ref m), some (.int a1), some (.int a2), some (.int a3), some (.int (s1.1 + iz 1)), some (.int x3)] dX8_doom_70 rfl rfl (Nat.le_of_ble_eq_true rfl) rfl rfl ?_
    refine nx_goto (q := 3) dX8_doom_73 (by decide) ?_
    refine nx_weak (ls' := [some (.ref m), some (.int a1), some (.int a2), some (.int a3), some (.int (s1.1 + iz 1)), none]) (nx_wk_s (nx_wk_s (nx_wk_s (nx_wk_s (nx_wk_s (nx_wk_n nx_wk_e)))))) ?_
    obtain ⟨_, _⟩ := s1
    exact nx_leaf rfl
set_option maxRecDepth 4000 in
theorem jM_doom {Γ : nx_G} {M0 : nx_M} {m : Nat} (u : Nat) (g : mS) (a1 : Int32) (a2 : Int32) (a3 : Int32)   (X : nx_X) (Z : nx_Z) : nx_J Γ X (RX8, cX8_doom, 6, none, "doom", 3) Z (fun r0 : mS => .inr (none, (mW Γ M0 m r0))) (.inl (0, [some (.ref m), some (.int a1), some (.int a2), some (.int a3), none, none], [], (mW Γ M0 m g))) (fM_doom u g a1 a2 a3) := by
  unfold fM_doom
  refine nx_iconst dX8_doom_0 rfl ?_
  refine nx_istore [some (.ref m), some (.int a1), some (.int a2), some (.int a3), some (.int (iz 0)), none] dX8_doom_1 rfl (Nat.le_of_ble_eq_true rfl) rfl rfl ?_
  refine nx_seq (C1 := fun e10 : mS => .inl (76, [some (.ref m), some (.int a1), some (.int a2), some (.int a3), none, none], [], (mW Γ M0 m e10))) (nx_loop (C1 := fun s1 : Int32 × mS => .inl (3, [some (.ref m), some (.int a1), some (.int a2), some (.int a3), some (.int s1.1), none], [], (mW Γ M0 m s1.2))) (fun s1 => jM_doom_3  u a1 a2 a3 X Z s1) ((iz 0), g)) (fun e10 => ?_)
  exact nx_vret dX8_doom_76 rfl rfl
theorem cM_doom (l : Launch) {Γ : nx_G} {M0 : nx_M} {m : Nat} {u : Nat} {g : mS} {a1 : Int32} {a2 : Int32} {a3 : Int32} {r : mS}  (h : fM_doom u g a1 a2 a3 = some r) : nx_Ct l Γ 3 yX8_doom cX8_doom 6 none [.ref m, .int a1, .int a2, .int a3] (mW Γ M0 m g) (none, (mW Γ M0 m r)) :=
  nx_ct (out := fun r0 : mS => (none, (mW Γ M0 m r0))) [some (.ref m), some (.int a1), some (.int a2), some (.int a3), none, none] pn_RX8 h (Nat.le_of_ble_eq_true rfl) rfl (fun X Z _ => jM_doom  u g a1 a2 a3 X Z)
