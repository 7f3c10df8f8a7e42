theorem dX8_fault_0 : decode cX8_fault 0 = .ok (.iload_n 1, 1) := by decide +kernel
theorem dX8_fault_1 : decode cX8_fault 1 = .ok (.ifCond .ne 10, 3) := by decide +kernel
theorem dX8_fault_4 : decode cX8_fault 4 = .ok (.aload_n 0, 1) := by decide +kernel
theorem dX8_fault_5 : decode cX8_fault 5 = .ok (.invokevirtual 126, 3) := by decide +kernel
theorem dX8_fault_8 : decode cX8_fault 8 = .ok (.goto 18, 3) := by decide +kernel
theorem dX8_fault_11 : decode cX8_fault 11 = .ok (.iload_n 1, 1) := by decide +kernel
theorem dX8_fault_12 : decode cX8_fault 12 = .ok (.iconst 1, 1) := by decide +kernel
theorem dX8_fault_13 : decode cX8_fault 13 = .ok (.if_icmp .ne 11, 3) := by decide +kernel
theorem dX8_fault_16 : decode cX8_fault 16 = .ok (.aload_n 0, 1) := by decide +kernel
theorem dX8_fault_17 : decode cX8_fault 17 = .ok (.iconst 4, 1) := by decide +kernel
theorem dX8_fault_18 : decode cX8_fault 18 = .ok (.invokevirtual 129, 3) := by decide +kernel
theorem dX8_fault_21 : decode cX8_fault 21 = .ok (.goto 5, 3) := by decide +kernel
theorem dX8_fault_24 : decode cX8_fault 24 = .ok (.bipush (-2), 2) := by decide +kernel
theorem dX8_fault_26 : decode cX8_fault 26 = .ok (.ireturn, 1) := by decide +kernel
def fM_fault (u : Nat) (g : mS) (a1 : Int32) : Option (Int32 × mS) :=
  if a1 = iz 0 then
    (fM_readStore u g).bind fun p2 =>
    some (p2.1, p2.2)
  else
    if a1 = (iz 1) then
      (fM_readScript u g (iz 4)).bind fun p1 =>
      some (p1.1, p1.2)
    else
      some ((iz (-2)), g)
set_option maxRecDepth 4000 in
theorem jM_fault {Γ : nx_G} {M0 : nx_M} {m : Nat} (u : Nat) (g : mS) (a1 : Int32)   (X : nx_X) (Z : nx_Z) : nx_J Γ X (RX8, cX8_fault, 2, (some .int), "fault", 6) Z (fun r0 : Int32 × mS => .inr (some (.int r0.1), (mW Γ M0 m r0.2))) (.inl (0, [some (.ref m), some (.int a1)], [], (mW Γ M0 m g))) (fM_fault u g a1) := by
  unfold fM_fault
  refine nx_iload_n rfl dX8_fault_0 rfl ?_
  refine nx_if_ne (t := 11) dX8_fault_1 (by decide) rfl ?_ ?_
  · refine nx_iload_n rfl dX8_fault_11 rfl ?_
    refine nx_iconst dX8_fault_12 rfl ?_
    refine nx_icmp_ne (t := 24) dX8_fault_13 (by decide) rfl ?_ ?_
    · refine nx_bipush (by decide +kernel) dX8_fault_24 rfl ?_
      exact nx_iret dX8_fault_26 rfl rfl
    · refine nx_aload_n rfl dX8_fault_16 rfl ?_
      refine nx_iconst dX8_fault_17 rfl ?_
      refine nx_callVr [.int (iz 4)] (fun r => .int r.1) (fun r => (mW Γ M0 m r.2)) cw_8_129 cv_X8_readScript (fun r e => cM_readScript X.2.1  e) mW_m rfl rfl (Nat.le_of_ble_eq_true rfl) (Nat.le_of_ble_eq_true rfl) dX8_fault_18 rfl (fun p1 => ?_)
      refine nx_goto (q := 26) dX8_fault_21 (by decide) ?_
      exact nx_iret dX8_fault_26 rfl rfl
  · refine nx_aload_n rfl dX8_fault_4 rfl ?_
    refine nx_callVr [] (fun r => .int r.1) (fun r => (mW Γ M0 m r.2)) cw_8_126 cv_X8_readStore (fun r e => cM_readStore X.2.1  e) mW_m rfl rfl (Nat.le_of_ble_eq_true rfl) (Nat.le_of_ble_eq_true rfl) dX8_fault_5 rfl (fun p2 => ?_)
    refine nx_goto (q := 26) dX8_fault_8 (by decide) ?_
    exact nx_iret dX8_fault_26 rfl rfl
theorem cM_fault (l : Launch) {Γ : nx_G} {M0 : nx_M} {m : Nat} {u : Nat} {g : mS} {a1 : Int32} {r : Int32 × mS}  (h : fM_fault u g a1 = some r) : nx_Ct l Γ 6 yX8_fault cX8_fault 2 (some .int) [.ref m, .int a1] (mW Γ M0 m g) (some (.int r.1), (mW Γ M0 m r.2)) :=
  nx_ct (out := fun r0 : Int32 × mS => (some (.int r0.1), (mW Γ M0 m r0.2))) [some (.ref m), some (.int a1)] pn_RX8 h (Nat.le_of_ble_eq_true rfl) rfl (fun X Z _ => jM_fault  u g a1 X Z)
theorem dX8_ofSeat_0 : decode cX8_ofSeat 0 = .ok (.bipush 48, 2) := by decide +kernel
theorem dX8_ofSeat_2 : decode cX8_ofSeat 2 = .ok (.iload_n 0, 1) := by decide +kernel
theorem dX8_ofSeat_3 : decode cX8_ofSeat 3 = .ok (.imul, 1) := by decide +kernel
theorem dX8_ofSeat_4 : decode cX8_ofSeat 4 = .ok (.iload_n 1, 1) := by decide +kernel
theorem dX8_ofSeat_5 : decode cX8_ofSeat 5 = .ok (.iadd, 1) := by decide +kernel
theorem dX8_ofSeat_6 : decode cX8_ofSeat 6 = .ok (.ireturn, 1) := by decide +kernel
def fM_ofSeat (u : Nat) (a1 : Int32) (a2 : Int32) : Option (Int32) :=
  some (((iz 48) * a1) + a2)
set_option maxRecDepth 4000 in
theorem jM_ofSeat {Γ : nx_G} {M : nx_M} (u : Nat) (a1 : Int32) (a2 : Int32)   (X : nx_X) (Z : nx_Z) : nx_J Γ X (RX8, cX8_ofSeat, 2, (some .int), "ofSeat", 1) Z (fun r0 : Int32 => .inr (some (.int r0), M)) (.inl (0, [some (.int a1), some (.int a2)], [], M)) (fM_ofSeat u a1 a2) := by
  unfold fM_ofSeat
  refine nx_bipush (by decide +kernel) dX8_ofSeat_0 rfl ?_
  refine nx_iload_n rfl dX8_ofSeat_2 rfl ?_
  refine nx_imul dX8_ofSeat_3 rfl ?_
  refine nx_iload_n rfl dX8_ofSeat_4 rfl ?_
  refine nx_iadd dX8_ofSeat_5 rfl ?_
  exact nx_iret dX8_ofSeat_6 rfl rfl
theorem cM_ofSeat (l : Launch) {Γ : nx_G} {M : nx_M} {u : Nat} {a1 : Int32} {a2 : Int32} {r : Int32}  (h : fM_ofSeat u a1 a2 = some r) : nx_Ct l Γ 1 yX8_ofSeat cX8_ofSeat 2 (some .int) [.int a1, .int a2] M (some (.int r), M) :=
  nx_ct (out := fun r0 : Int32 => (some (.int r0), M)) [some (.int a1), some (.int a2)] pn_RX8 h (Nat.le_of_ble_eq_true rfl) rfl (fun X Z _ => jM_ofSeat  u a1 a2 X Z)
theorem dX8_of_0 : decode cX8_of 0 = .ok (.aload_n 0, 1) := by decide +kernel
theorem dX8_of_1 : decode cX8_of 1 = .ok (.getfield 28, 3) := by decide +kernel
theorem dX8_of_4 : decode cX8_of 4 = .ok (.iload_n 1, 1) := by decide +kernel
theorem dX8_of_5 : decode cX8_of 5 = .ok (.iload_n 2, 1) := by decide +kernel
theorem dX8_of_6 : decode cX8_of 6 = .ok (.invokestatic 132, 3) := by decide +kernel
theorem dX8_of_9 : decode cX8_of 9 = .ok (.iaload, 1) := by decide +kernel
theorem dX8_of_10 : decode cX8_of 10 = .ok (.ireturn, 1) := by decide +kernel
def fM_of (u : Nat) (g : mS) (a1 : Int32) (a2 : Int32) : Option (Int32) :=
  (fM_ofSeat u a1 a2).bind fun x1 =>
  (nx_rd (mlen 7) (g.1 7) x1).bind fun x2 =>
  some x2
set_option maxRecDepth 4000 in
theorem jM_of {Γ : nx_G} {M0 : nx_M} {m : Nat} (u : Nat) (g : mS) (a1 : Int32) (a2 : Int32)   (X : nx_X) (Z : nx_Z) : nx_J Γ X (RX8, cX8_of, 3, (some .int), "of", 2) Z (fun r0 : Int32 => .inr (some (.int r0), (mW Γ M0 m g))) (.inl (0, [some (.ref m), some (.int a1), some (.int a2)], [], (mW Γ M0 m g))) (fM_of u g a1 a2) := by
  unfold fM_of
  refine nx_aload_n rfl dX8_of_0 rfl ?_
  refine nx_getf fl_8_28 mW_m rfl dX8_of_1 rfl ?_
  refine nx_iload_n rfl dX8_of_4 rfl ?_
  refine nx_iload_n rfl dX8_of_5 rfl ?_
  refine nx_callSr [.int a1, .int a2] (fun r => .int r) (fun _ => (mW Γ M0 m g)) cw_8_132 wd_1348 (fun r e => cM_ofSeat X.2.1  e) rfl rfl (Nat.le_of_ble_eq_true rfl) (Nat.le_of_ble_eq_true rfl) dX8_of_6 rfl (fun x1 => ?_)
  refine m_iald 7 ⟨Nat.le_of_ble_eq_true rfl, Nat.le_of_ble_eq_true rfl⟩ dX8_of_9 rfl (fun x2 => ?_)
  exact nx_iret dX8_of_10 rfl rfl
theorem cM_of (l : Launch) {Γ : nx_G} {M0 : nx_M} {m : Nat} {u : Nat} {g : mS} {a1 : Int32} {a2 : Int32} {r : Int32}  (h : fM_of u g a1 a2 = some r) : nx_Ct l Γ 2 yX8_of cX8_of 3 (some .int) [.ref m, .int a1, .int a2] (mW Γ M0 m g) (some (.int r), (mW Γ M0 m g)) :=
  nx_ct (out := fun r0 : Int32 => (some (.int r0), (mW Γ M0 m g))) [some (.ref m), some (.int a1), some (.int a2)] pn_RX8 h (Nat.le_of_ble_eq_true rfl) rfl (fun X Z _ => jM_of  u g a1 a2 X Z)
theorem dX8_keyAt_0 : decode cX8_keyAt 0 = .ok (.sipush 384, 3) := by decide +kernel
theorem dX8_keyAt_3 : decode cX8_keyAt 3 = .ok (.bipush 37, 2) := by decide +kernel
theorem dX8_keyAt_5 : decode cX8_keyAt 5 = .ok (.iload_n 0, 1) := by decide +kernel
theorem dX8_keyAt_6 : decode cX8_keyAt 6 = .ok (.imul, 1) := by decide +kernel
theorem dX8_keyAt_7 : decode cX8_keyAt 7 = .ok (.iadd, 1) := by decide +kernel
theorem dX8_keyAt_8 : decode cX8_keyAt 8 = .ok (.ireturn, 1) := by decide +kernel
def fM_keyAt (u : Nat) (a1 : Int32) : Option (Int32) :=
  some ((iz 384) + ((iz 37) * a1))
set_option maxRecDepth 4000 in
theorem jM_keyAt {Γ : nx_G} {M : nx_M} (u : Nat) (a1 : Int32)   (X : nx_X) (Z : nx_Z) : nx_J Γ X (RX8, cX8_keyAt, 1, (some .int), "keyAt", 1) Z (fun r0 : Int32 => .inr (some (.int r0), M)) (.inl (0, [some (.int a1)], [], M)) (fM_keyAt u a1) := by
  unfold fM_keyAt
  refine nx_sipush (by decide +kernel) dX8_keyAt_0 rfl ?_
  refine nx_bipush (by decide +kernel) dX8_keyAt_3 rfl ?_
  refine nx_iload_n rfl dX8_keyAt_5 rfl ?_
  refine nx_imul dX8_keyAt_6 rfl ?_
  refine nx_iadd dX8_keyAt_7 rfl ?_
  exact nx_iret dX8_keyAt_8 rfl rfl
theorem cM_keyAt (l : Launch) {Γ : nx_G} {M : nx_M} {u : Nat} {a1 : Int32} {r : Int32}  (h : fM_keyAt u a1 = some r) : nx_Ct l Γ 1 yX8_keyAt cX8_keyAt 1 (some .int) [.int a1] M (some (.int r), M) :=
  nx_ct (out := fun r0 : Int32 => (some (.int r0), M)) [some (.int a1)] pn_RX8 h (Nat.le_of_ble_eq_true rfl) rfl (fun X Z _ => jM_keyAt  u a1 X Z)
theorem dX8_many_0 : decode cX8_many 0 = .ok (.aload_n 0, 1) := by decide +kernel
theorem dX8_many_1 : decode cX8_many 1 = .ok (.getfield 28, 3) := by decide +kernel
theorem dX8_many_4 : decode cX8_many 4 = .ok (.iload_n 1, 1) := by decide +kernel
theorem dX8_many_5 : decode cX8_many 5 = .ok (.invokestatic 135, 3) := by decide +kernel
theorem dX8_many_8 : decode cX8_many 8 = .ok (.iaload, 1) := by decide +kernel
theorem dX8_many_9 : decode cX8_many 9 = .ok (.ireturn, 1) := by decide +kernel
def fM_many (u : Nat) (g : mS) (a1 : Int32) : Option (Int32) :=
  (fM_keyAt u a1).bind fun x1 =>
  (nx_rd (mlen 7) (g.1 7) x1).bind fun x2 =>
  some x2
set_option maxRecDepth 4000 in
theorem jM_many {Γ : nx_G} {M0 : nx_M} {m : Nat} (u : Nat) (g : mS) (a1 : Int32)   (X : nx_X) (Z : nx_Z) : nx_J Γ X (RX8, cX8_many, 2, (some .int), "many", 2) Z (fun r0 : Int32 => .inr (some (.int r0), (mW Γ M0 m g))) (.inl (0, [some (.ref m), some (.int a1)], [], (mW Γ M0 m g))) (fM_many u g a1) := by
  unfold fM_many
  refine nx_aload_n rfl dX8_many_0 rfl ?_
  refine nx_getf fl_8_28 mW_m rfl dX8_many_1 rfl ?_
  refine nx_iload_n rfl dX8_many_4 rfl ?_
  refine nx_callSr [.int a1] (fun r => .int r) (fun _ => (mW Γ M0 m g)) cw_8_135 wd_1318 (fun r e => cM_keyAt X.2.1  e) rfl rfl (Nat.le_of_ble_eq_true rfl) (Nat.le_of_ble_eq_true rfl) dX8_many_5 rfl (fun x1 => ?_)
  refine m_iald 7 ⟨Nat.le_of_ble_eq_true rfl, Nat.le_of_ble_eq_true rfl⟩ dX8_many_8 rfl (fun x2 => ?_)
  exact nx_iret dX8_many_9 rfl rfl
theorem cM_many (l : Launch) {Γ : nx_G} {M0 : nx_M} {m : Nat} {u : Nat} {g : mS} {a1 : Int32} {r : Int32}  (h : fM_many u g a1 = some r) : nx_Ct l Γ 2 yX8_many cX8_many 2 (some .int) [.ref m, .int a1] (mW Γ M0 m g) (some (.int r), (mW Γ M0 m g)) :=
  nx_ct (out := fun r0 : Int32 => (some (.int r0), (mW Γ M0 m g))) [some (.ref m), some (.int a1)] pn_RX8 h (Nat.le_of_ble_eq_true rfl) rfl (fun X Z _ => jM_many  u g a1 X Z)
theorem dX8_cell_0 : decode cX8_cell 0 = .ok (.sipush 384, 3) := by decide +kernel
theorem dX8_cell_3 : decode cX8_cell 3 = .ok (.bipush 37, 2) := by decide +kernel
theorem dX8_cell_5 : decode cX8_cell 5 = .ok (.iload_n 0, 1) := by decide +kernel
theorem dX8_cell_6 : decode cX8_cell 6 = .ok (.imul, 1) := by decide +kernel
theorem dX8_cell_7 : decode cX8_cell 7 = .ok (.iadd, 1) := by decide +kernel
theorem dX8_cell_8 : decode cX8_cell 8 = .ok (.iconst 4, 1) := by decide +kernel
theorem dX8_cell_9 : decode cX8_cell 9 = .ok (.iload_n 1, 1) := by decide +kernel
theorem dX8_cell_10 : decode cX8_cell 10 = .ok (.imul, 1) := by decide +kernel
theorem dX8_cell_11 : decode cX8_cell 11 = .ok (.iadd, 1) := by decide +kernel
theorem dX8_cell_12 : decode cX8_cell 12 = .ok (.iload_n 2, 1) := by decide +kernel
theorem dX8_cell_13 : decode cX8_cell 13 = .ok (.iadd, 1) := by decide +kernel
theorem dX8_cell_14 : decode cX8_cell 14 = .ok (.ireturn, 1) := by decide +kernel
def fM_cell (u : Nat) (a1 : Int32) (a2 : Int32) (a3 : Int32) : Option (Int32) :=
  some ((((iz 384) + ((iz 37) * a1)) + ((iz 4) * a2)) + a3)
set_option maxRecDepth 4000 in
theorem jM_cell {Γ : nx_G} {M : nx_M} (u : Nat) (a1 : Int32) (a2 : Int32) (a3 : Int32)   (X : nx_X) (Z : nx_Z) : nx_J Γ X (RX8, cX8_cell, 3, (some .int), "cell", 1) Z (fun r0 : Int32 => .inr (some (.int r0), M)) (.inl (0, [some (.int a1), some (.int a2), some (.int a3)], [], M)) (fM_cell u a1 a2 a3) := by
  unfold fM_cell
  refine nx_sipush (by decide +kernel) dX8_cell_0 rfl ?_
  refine nx_bipush (by decide +kernel) dX8_cell_3 rfl ?_
  refine nx_iload_n rfl dX8_cell_5 rfl ?_
  refine nx_imul dX8_cell_6 rfl ?_
  refine nx_iadd dX8_cell_7 rfl ?_
  refine nx_iconst dX8_cell_8 rfl ?_
  refine nx_iload_n rfl dX8_cell_9 rfl ?_
  refine nx_imul dX8_cell_10 rfl ?_
  refine nx_iadd dX8_cell_11 rfl ?_
  refine nx_iload_n rfl dX8_cell_12 rfl ?_
  refine nx_iadd dX8_cell_13 rfl ?_
  exact nx_iret dX8_cell_14 rfl rfl
theorem cM_cell (l : Launch) {Γ : nx_G} {M : nx_M} {u : Nat} {a1 : Int32} {a2 : Int32} {a3 : Int32} {r : Int32}  (h : fM_cell u a1 a2 a3 = some r) : nx_Ct l Γ 1 yX8_cell cX8_cell 3 (some .int) [.int a1, .int a2, .int a3] M (some (.int r), M) :=
  nx_ct (out := fun r0 : Int32 => (some (.int r0), M)) [some (.int a1), some (.int a2), some (.int a3)] pn_RX8 h (Nat.le_of_ble_eq_true rfl) rfl (fun X Z _ => jM_cell  u a1 a2 a3 X Z)
theorem dX8_its_0 : decode cX8_its 0 = .ok (.aload_n 0, 1) := by decide +kernel
theorem dX8_its_1 : decode cX8_its 1 = .ok (.getfield 28, 3) := by decide +kernel
theorem dX8_its_4 : decode cX8_its 4 = .ok (.iload_n 1, 1) := by decide +kernel
theorem dX8_its_5 : decode cX8_its 5 = .ok (.iload_n 2, 1) := by decide +kernel
theorem dX8_its_6 : decode cX8_its 6 = .ok (.iload_n 3, 1) := by decide +kernel
theorem dX8_its_7 : decode cX8_its 7 = .ok (.invokestatic 138, 3) := by decide +kernel
theorem dX8_its_10 : decode cX8_its 10 = .ok (.iaload, 1) := by decide +kernel
theorem dX8_its_11 : decode cX8_its 11 = .ok (.ireturn, 1) := by decide +kernel
def fM_its (u : Nat) (g : mS) (a1 : Int32) (a2 : Int32) (a3 : Int32) : Option (Int32) :=
  (fM_cell u a1 a2 a3).bind fun x1 =>
  (nx_rd (mlen 7) (g.1 7) x1).bind fun x2 =>
  some x2
set_option maxRecDepth 4000 in
theorem jM_its {Γ : nx_G} {M0 : nx_M} {m : Nat} (u : Nat) (g : mS) (a1 : Int32) (a2 : Int32) (a3 : Int32)   (X : nx_X) (Z : nx_Z) : nx_J Γ X (RX8, cX8_its, 4, (some .int), "its", 2) Z (fun r0 : Int32 => .inr (some (.int r0), (mW Γ M0 m g))) (.inl (0, [some (.ref m), some (.int a1), some (.int a2), some (.int a3)], [], (mW Γ M0 m g))) (fM_its u g a1 a2 a3) := by
  unfold fM_its
  refine nx_aload_n rfl dX8_its_0 rfl ?_
  refine nx_getf fl_8_28 mW_m rfl dX8_its_1 rfl ?_
  refine nx_iload_n rfl dX8_its_4 rfl ?_
  refine nx_iload_n rfl dX8_its_5 rfl ?_
  refine nx_iload_n rfl dX8_its_6 rfl ?_
  refine nx_callSr [.int a1, .int a2, .int a3] (fun r => .int r) (fun _ => (mW Γ M0 m g)) cw_8_138 wd_1321 (fun r e => cM_cell X.2.1  e) rfl rfl (Nat.le_of_ble_eq_true rfl) (Nat.le_of_ble_eq_true rfl) dX8_its_7 rfl (fun x1 => ?_)
  refine m_iald 7 ⟨Nat.le_of_ble_eq_true rfl, Nat.le_of_ble_eq_true rfl⟩ dX8_its_10 rfl (fun x2 => ?_)
  exact nx_iret dX8_its_11 rfl rfl
theorem cM_its (l : Launch) {Γ : nx_G} {M0 : nx_M} {m : Nat} {u : Nat} {g : mS} {a1 : Int32} {a2 : Int32} {a3 : Int32} {r : Int32}  (h : fM_its u g a1 a2 a3 = some r) : nx_Ct l Γ 2 yX8_its cX8_its 4 (some .int) [.ref m, .int a1, .int a2, .int a3] (mW Γ M0 m g) (some (.int r), (mW Γ M0 m g)) :=
  nx_ct (out := fun r0 : Int32 => (some (.int r0), (mW Γ M0 m g))) [some (.ref m), some (.int a1), some (.int a2), some (.int a3)] pn_RX8 h (Nat.le_of_ble_eq_true rfl) rfl (fun X Z _ => jM_its  u g a1 a2 a3 X Z)
theorem dX8_takeStore_0 : decode cX8_takeStore 0 = .ok (.aload_n 0, 1) := by decide +kernel
theorem dX8_takeStore_1 : decode cX8_takeStore 1 = .ok (.aload_n 0, 1) := by decide +kernel
theorem dX8_takeStore_2 : decode cX8_takeStore 2 = .ok (.getfield 105, 3) := by decide +kernel
theorem dX8_takeStore_5 : decode cX8_takeStore 5 = .ok (.putfield 142, 3) := by decide +kernel
theorem dX8_takeStore_8 : decode cX8_takeStore 8 = .ok (.iconst 0, 1) := by decide +kernel
theorem dX8_takeStore_9 : decode cX8_takeStore 9 = .ok (.istore_n 1, 1) := by decide +kernel
theorem dX8_takeStore_10 : decode cX8_takeStore 10 = .ok (.iload_n 1, 1) := by decide +kernel
theorem dX8_takeStore_11 : decode cX8_takeStore 11 = .ok (.iconst 3, 1) := by decide +kernel
theorem dX8_takeStore_12 : decode cX8_takeStore 12 = .ok (.if_icmp .ge 21, 3) := by decide +kernel
theorem dX8_takeStore_15 : decode cX8_takeStore 15 = .ok (.aload_n 0, 1) := by decide +kernel
theorem dX8_takeStore_16 : decode cX8_takeStore 16 = .ok (.getfield 19, 3) := by decide +kernel
theorem dX8_takeStore_19 : decode cX8_takeStore 19 = .ok (.iload_n 1, 1) := by decide +kernel
theorem dX8_takeStore_20 : decode cX8_takeStore 20 = .ok (.aload_n 0, 1) := by decide +kernel
theorem dX8_takeStore_21 : decode cX8_takeStore 21 = .ok (.getfield 13, 3) := by decide +kernel
theorem dX8_takeStore_24 : decode cX8_takeStore 24 = .ok (.iload_n 1, 1) := by decide +kernel
theorem dX8_takeStore_25 : decode cX8_takeStore 25 = .ok (.iaload, 1) := by decide +kernel
theorem dX8_takeStore_26 : decode cX8_takeStore 26 = .ok (.iastore, 1) := by decide +kernel
theorem dX8_takeStore_27 : decode cX8_takeStore 27 = .ok (.iinc 1 1, 3) := by decide +kernel
theorem dX8_takeStore_30 : decode cX8_takeStore 30 = .ok (.goto (-20), 3) := by decide +kernel
theorem dX8_takeStore_33 : decode cX8_takeStore 33 = .ok (.iconst 0, 1) := by decide +kernel
theorem dX8_takeStore_34 : decode cX8_takeStore 34 = .ok (.istore_n 1, 1) := by decide +kernel
theorem dX8_takeStore_35 : decode cX8_takeStore 35 = .ok (.iload_n 1, 1) := by decide +kernel
theorem dX8_takeStore_36 : decode cX8_takeStore 36 = .ok (.sipush 820, 3) := by decide +kernel
theorem dX8_takeStore_39 : decode cX8_takeStore 39 = .ok (.if_icmp .ge 16, 3) := by decide +kernel
theorem dX8_takeStore_42 : decode cX8_takeStore 42 = .ok (.aload_n 0, 1) := by decide +kernel
theorem dX8_takeStore_43 : decode cX8_takeStore 43 = .ok (.getfield 28, 3) := by decide +kernel
theorem dX8_takeStore_46 : decode cX8_takeStore 46 = .ok (.iload_n 1, 1) := by decide +kernel
theorem dX8_takeStore_47 : decode cX8_takeStore 47 = .ok (.iconst 0, 1) := by decide +kernel
theorem dX8_takeStore_48 : decode cX8_takeStore 48 = .ok (.iastore, 1) := by decide +kernel
theorem dX8_takeStore_49 : decode cX8_takeStore 49 = .ok (.iinc 1 1, 3) := by decide +kernel
theorem dX8_takeStore_52 : decode cX8_takeStore 52 = .ok (.goto (-17), 3) := by decide +kernel
theorem dX8_takeStore_55 : decode cX8_takeStore 55 = .ok (.iconst 0, 1) := by decide +kernel
theorem dX8_takeStore_56 : decode cX8_takeStore 56 = .ok (.istore_n 1, 1) := by decide +kernel
theorem dX8_takeStore_57 : decode cX8_takeStore 57 = .ok (.iload_n 1, 1) := by decide +kernel
theorem dX8_takeStore_58 : decode cX8_takeStore 58 = .ok (.aload_n 0, 1) := by decide +kernel
theorem dX8_takeStore_59 : decode cX8_takeStore 59 = .ok (.getfield 142, 3) := by decide +kernel
theorem dX8_takeStore_62 : decode cX8_takeStore 62 = .ok (.if_icmp .ge 48, 3) := by decide +kernel
theorem dX8_takeStore_65 : decode cX8_takeStore 65 = .ok (.aload_n 0, 1) := by decide +kernel
theorem dX8_takeStore_66 : decode cX8_takeStore 66 = .ok (.getfield 28, 3) := by decide +kernel
theorem dX8_takeStore_69 : decode cX8_takeStore 69 = .ok (.iload_n 1, 1) := by decide +kernel
theorem dX8_takeStore_70 : decode cX8_takeStore 70 = .ok (.invokestatic 135, 3) := by decide +kernel
theorem dX8_takeStore_73 : decode cX8_takeStore 73 = .ok (.iconst 1, 1) := by decide +kernel
theorem dX8_takeStore_74 : decode cX8_takeStore 74 = .ok (.iastore, 1) := by decide +kernel
theorem dX8_takeStore_75 : decode cX8_takeStore 75 = .ok (.aload_n 0, 1) := by decide +kernel
theorem dX8_takeStore_76 : decode cX8_takeStore 76 = .ok (.getfield 28, 3) := by decide +kernel
theorem dX8_takeStore_79 : decode cX8_takeStore 79 = .ok (.iload_n 1, 1) := by decide +kernel
theorem dX8_takeStore_80 : decode cX8_takeStore 80 = .ok (.iconst 0, 1) := by decide +kernel
theorem dX8_takeStore_81 : decode cX8_takeStore 81 = .ok (.iconst 2, 1) := by decide +kernel
theorem dX8_takeStore_82 : decode cX8_takeStore 82 = .ok (.invokestatic 138, 3) := by decide +kernel
theorem dX8_takeStore_85 : decode cX8_takeStore 85 = .ok (.aload_n 0, 1) := by decide +kernel
theorem dX8_takeStore_86 : decode cX8_takeStore 86 = .ok (.getfield 16, 3) := by decide +kernel
theorem dX8_takeStore_89 : decode cX8_takeStore 89 = .ok (.iload_n 1, 1) := by decide +kernel
theorem dX8_takeStore_90 : decode cX8_takeStore 90 = .ok (.iaload, 1) := by decide +kernel
theorem dX8_takeStore_91 : decode cX8_takeStore 91 = .ok (.iastore, 1) := by decide +kernel
theorem dX8_takeStore_92 : decode cX8_takeStore 92 = .ok (.aload_n 0, 1) := by decide +kernel
theorem dX8_takeStore_93 : decode cX8_takeStore 93 = .ok (.getfield 28, 3) := by decide +kernel
theorem dX8_takeStore_96 : decode cX8_takeStore 96 = .ok (.iload_n 1, 1) := by decide +kernel
theorem dX8_takeStore_97 : decode cX8_takeStore 97 = .ok (.iconst 0, 1) := by decide +kernel
theorem dX8_takeStore_98 : decode cX8_takeStore 98 = .ok (.iconst 4, 1) := by decide +kernel
theorem dX8_takeStore_99 : decode cX8_takeStore 99 = .ok (.invokestatic 138, 3) := by decide +kernel
theorem dX8_takeStore_102 : decode cX8_takeStore 102 = .ok (.iconst (-1), 1) := by decide +kernel
theorem dX8_takeStore_103 : decode cX8_takeStore 103 = .ok (.iastore, 1) := by decide +kernel
theorem dX8_takeStore_104 : decode cX8_takeStore 104 = .ok (.iinc 1 1, 3) := by decide +kernel
theorem dX8_takeStore_107 : decode cX8_takeStore 107 = .ok (.goto (-50), 3) := by decide +kernel
theorem dX8_takeStore_110 : decode cX8_takeStore 110 = .ok (.aload_n 0, 1) := by decide +kernel
theorem dX8_takeStore_111 : decode cX8_takeStore 111 = .ok (.iconst 0, 1) := by decide +kernel
theorem dX8_takeStore_112 : decode cX8_takeStore 112 = .ok (.putfield 145, 3) := by decide +kernel
theorem dX8_takeStore_115 : decode cX8_takeStore 115 = .ok (.aload_n 0, 1) := by decide +kernel
theorem dX8_takeStore_116 : decode cX8_takeStore 116 = .ok (.iconst 0, 1) := by decide +kernel
theorem dX8_takeStore_117 : decode cX8_takeStore 117 = .ok (.putfield 148, 3) := by decide +kernel
theorem dX8_takeStore_120 : decode cX8_takeStore 120 = .ok (.aload_n 0, 1) := by decide +kernel
theorem dX8_takeStore_121 : decode cX8_takeStore 121 = .ok (.getfield 142, 3) := by decide +kernel
theorem dX8_takeStore_124 : decode cX8_takeStore 124 = .ok (.ireturn, 1) := by decide +kernel
def fM_takeStore_10  (s2 : Int32 × mS) : Option ((Int32 × mS) ⊕ (mS)) :=
  if (iz 3) ≤ s2.1 then
    some (.inr s2.2)
  else
    (nx_rd (mlen 2) (s2.2.1 2) s2.1).bind fun x3 =>
    (mWr s2.2 4 s2.1 x3).bind fun g4 =>
    some (.inl ((s2.1 + iz 1), g4))
def fM_takeStore_35  (s6 : Int32 × mS) : Option ((Int32 × mS) ⊕ (mS)) :=
  if (iz 820) ≤ s6.1 then
    some (.inr s6.2)
  else
    (mWr s6.2 7 s6.1 (iz 0)).bind fun g7 =>
    some (.inl ((s6.1 + iz 1), g7))
def fM_takeStore_57 (u : Nat) (s9 : Int32 × mS) : Option ((Int32 × mS) ⊕ (mS)) :=
  if (s9.2.1 0 9) ≤ s9.1 then
    some (.inr s9.2)
  else
    (fM_keyAt u s9.1).bind fun x10 =>
    (mWr s9.2 7 x10 (iz 1)).bind fun g11 =>
    (fM_cell u s9.1 (iz 0) (iz 2)).bind fun x12 =>
    (nx_rd (mlen 3) (g11.1 3) s9.1).bind fun x13 =>
    (mWr g11 7 x12 x13).bind fun g14 =>
    (fM_cell u s9.1 (iz 0) (iz 4)).bind fun x15 =>
    (mWr g14 7 x15 (iz (-1))).bind fun g16 =>
    some (.inl ((s9.1 + iz 1), g16))
def fM_takeStore (u : Nat) (g : mS) : Option (Int32 × mS) :=
  (some (mFs g 9 (g.1 0 7))).bind fun g1 =>
  (nx_iter u (fM_takeStore_10) ((iz 0), g1)).bind fun e5 =>
  (nx_iter u (fM_takeStore_35) ((iz 0), e5)).bind fun e8 =>
  (nx_iter u (fM_takeStore_57 u) ((iz 0), e8)).bind fun e17 =>
  (some (mFs e17 19 (iz 0))).bind fun g18 =>
  (some (mFs g18 26 (iz 0))).bind fun g19 =>
  some ((g19.1 0 9), g19)
set_option maxRecDepth 4000 in
theorem jM_takeStore_10 {Γ : nx_G} {M0 : nx_M} {m : Nat}    (X : nx_X) (Z : nx_Z) (s2 : Int32 × mS) : nx_J Γ X (RX8, cX8_takeStore, 2, (some .int), "takeStore", 2) Z (Sum.elim (fun s2 : Int32 × mS => .inl (10, [some (.ref m), some (.int s2.1)], [], (mW Γ M0 m s2.2))) (fun e5 : mS => .inl (33, [some (.ref m), none], [], (mW Γ M0 m e5)))) (.inl (10, [some (.ref m), some (.int s2.1)], [], (mW Γ M0 m s2.2))) (fM_takeStore_10 s2) := by
  unfold fM_takeStore_10
  refine nx_iload_n rfl dX8_takeStore_10 rfl ?_
  refine nx_iconst dX8_takeStore_11 rfl ?_
  refine nx_icmp_ge (t := 33) dX8_takeStore_12 (by decide) rfl ?_ ?_
  · refine nx_weak (ls' := [some (.ref m), none]) (nx_wk_s (nx_wk_n nx_wk_e)) ?_
    obtain ⟨_, _⟩ := s2
    exact nx_leaf rfl
  · refine nx_aload_n rfl dX8_takeStore_15 rfl ?_
    refine nx_getf fl_8_19 mW_m rfl dX8_takeStore_16 rfl ?_
    refine nx_iload_n rfl dX8_takeStore_19 rfl ?_
    refine nx_aload_n rfl dX8_takeStore_20 rfl ?_
    refine nx_getf fl_8_13 mW_m rfl dX8_takeStore_21 rfl ?_
    refine nx_iload_n rfl dX8_takeStore_24 rfl ?_
    refine m_iald 2 ⟨Nat.le_of_ble_eq_true rfl, Nat.le_of_ble_eq_true rfl⟩ dX8_takeStore_25 rfl (fun x3 => ?_)
    refine m_iast 4 ⟨Nat.le_of_ble_eq_true rfl, Nat.le_of_ble_eq_true rfl⟩ dX8_takeStore_26 rfl (fun g4 => ?_)
    refine nx_iinc [some (.ref m), some (.int (s2.1 + iz 1))] dX8_takeStore_27 rfl rfl (Nat.le_of_ble_eq_true rfl) rfl rfl ?_
    refine nx_goto (q := 10) dX8_takeStore_30 (by decide) ?_
    obtain ⟨_, _⟩ := s2
    exact nx_leaf rfl
set_option maxRecDepth 4000 in
theorem jM_takeStore_35 {Γ : nx_G} {M0 : nx_M} {m : Nat}    (X : nx_X) (Z : nx_Z) (s6 : Int32 × mS) : nx_J Γ X (RX8, cX8_takeStore, 2, (some .int), "takeStore", 2) Z (Sum.elim (fun s6 : Int32 × mS => .inl (35, [some (.ref m), some (.int s6.1)], [], (mW Γ M0 m s6.2))) (fun e8 : mS => .inl (55, [some (.ref m), none], [], (mW Γ M0 m e8)))) (.inl (35, [some (.ref m), some (.int s6.1)], [], (mW Γ M0 m s6.2))) (fM_takeStore_35 s6) := by
  unfold fM_takeStore_35
  refine nx_iload_n rfl dX8_takeStore_35 rfl ?_
  refine nx_sipush (by decide +kernel) dX8_takeStore_36 rfl ?_
  refine nx_icmp_ge (t := 55) dX8_takeStore_39 (by decide) rfl ?_ ?_
  · refine nx_weak (ls' := [some (.ref m), none]) (nx_wk_s (nx_wk_n nx_wk_e)) ?_
    obtain ⟨_, _⟩ := s6
    exact nx_leaf rfl
  · refine nx_aload_n rfl dX8_takeStore_42 rfl ?_
    refine nx_getf fl_8_28 mW_m rfl dX8_takeStore_43 rfl ?_
    refine nx_iload_n rfl dX8_takeStore_46 rfl ?_
    refine nx_iconst dX8_takeStore_47 rfl ?_
    refine m_iast 7 ⟨Nat.le_of_ble_eq_true rfl, Nat.le_of_ble_eq_true rfl⟩ dX8_takeStore_48 rfl (fun g7 => ?_)
    refine nx_iinc [some (.ref m), some (.int (s6.1 + iz 1))] dX8_takeStore_49 rfl rfl (Nat.le_of_ble_eq_true rfl) rfl rfl ?_
    refine nx_goto (q := 35) dX8_takeStore_52 (by decide) ?_
    obtain ⟨_, _⟩ := s6
    exact nx_leaf rfl
set_option maxRecDepth 4000 in
theorem jM_takeStore_57 {Γ : nx_G} {M0 : nx_M} {m : Nat} (u : Nat)   (X : nx_X) (Z : nx_Z) (s9 : Int32 × mS) : nx_J Γ X (RX8, cX8_takeStore, 2, (some .int), "takeStore", 2) Z (Sum.elim (fun s9 : Int32 × mS => .inl (57, [some (.ref m), some (.int s9.1)], [], (mW Γ M0 m s9.2))) (fun e17 : mS => .inl (110, [some (.ref m), none], [], (mW Γ M0 m e17)))) (.inl (57, [some (.ref m), some (.int s9.1)], [], (mW Γ M0 m s9.2))) (fM_takeStore_57 u s9) := by
  unfold fM_takeStore_57
  refine nx_iload_n rfl dX8_takeStore_57 rfl ?_
  refine nx_aload_n rfl dX8_takeStore_58 rfl ?_
  refine nx_getf fl_8_142 mW_m rfl dX8_takeStore_59 rfl ?_
  refine nx_icmp_ge (t := 110) dX8_takeStore_62 (by decide) rfl ?_ ?_
  · refine nx_weak (ls' := [some (.ref m), none]) (nx_wk_s (nx_wk_n nx_wk_e)) ?_
    obtain ⟨_, _⟩ := s9
    exact nx_leaf rfl
  · refine nx_aload_n rfl dX8_takeStore_65 rfl ?_
    refine nx_getf fl_8_28 mW_m rfl dX8_takeStore_66 rfl ?_
    refine nx_iload_n rfl dX8_takeStore_69 rfl ?_
    refine nx_callSr [.int s9.1] (fun r => .int r) (fun _ => (mW Γ M0 m s9.2)) cw_8_135 wd_1318 (fun r e => cM_keyAt X.2.1  e) rfl rfl (Nat.le_of_ble_eq_true rfl) (Nat.le_of_ble_eq_true rfl) dX8_takeStore_70 rfl (fun x10 => ?_)
    refine nx_iconst dX8_takeStore_73 rfl ?_
    refine m_iast 7 ⟨Nat.le_of_ble_eq_true rfl, Nat.le_of_ble_eq_true rfl⟩ dX8_takeStore_74 rfl (fun g11 => ?_)
    refine nx_aload_n rfl dX8_takeStore_75 rfl ?_
    refine nx_getf fl_8_28 mW_m rfl dX8_takeStore_76 rfl ?_
    refine nx_iload_n rfl dX8_takeStore_79 rfl ?_
    refine nx_iconst dX8_takeStore_80 rfl ?_
    refine nx_iconst dX8_takeStore_81 rfl ?_
    refine nx_callSr [.int s9.1, .int (iz 0), .int (iz 2)] (fun r => .int r) (fun _ => (mW Γ M0 m g11)) cw_8_138 wd_1321 (fun r e => cM_cell X.2.1  e) rfl rfl (Nat.le_of_ble_eq_true rfl) (Nat.le_of_ble_eq_true rfl) dX8_takeStore_82 rfl (fun x12 => ?_)
    refine nx_aload_n rfl dX8_takeStore_85 rfl ?_
    refine nx_getf fl_8_16 mW_m rfl dX8_takeStore_86 rfl ?_
    refine nx_iload_n rfl dX8_takeStore_89 rfl ?_
    refine m_iald 3 ⟨Nat.le_of_ble_eq_true rfl, Nat.le_of_ble_eq_true rfl⟩ dX8_takeStore_90 rfl (fun x13 => ?_)
    refine m_iast 7 ⟨Nat.le_of_ble_eq_true rfl, Nat.le_of_ble_eq_true rfl⟩ dX8_takeStore_91 rfl (fun g14 => ?_)
    refine nx_aload_n rfl dX8_takeStore_92 rfl ?_
    refine nx_getf fl_8_28 mW_m rfl dX8_takeStore_93 rfl ?_
    refine nx_iload_n rfl dX8_takeStore_96 rfl ?_
    refine nx_iconst dX8_takeStore_97 rfl ?_
    refine nx_iconst dX8_takeStore_98 rfl ?_
    refine nx_callSr [.int s9.1, .int (iz 0), .int (iz 4)] (fun r => .int r) (fun _ => (mW Γ M0 m g14)) cw_8_138 wd_1321 (fun r e => cM_cell X.2.1  e) rfl rfl (Nat.le_of_ble_eq_true rfl) (Nat.le_of_ble_eq_true rfl) dX8_takeStore_99 rfl (fun x15 => ?_)
    refine nx_iconst dX8_takeStore_102 rfl ?_
    refine m_iast 7 ⟨Nat.le_of_ble_eq_true rfl, Nat.le_of_ble_eq_true rfl⟩ dX8_takeStore_103 rfl (fun g16 => ?_)
    refine nx_iinc [some (.ref m), some (.int (s9.1 + iz 1))] dX8_takeStore_104 rfl rfl (Nat.le_of_ble_eq_true rfl) rfl rfl ?_
    refine nx_goto (q := 57) dX8_takeStore_107 (by decide) ?_
    obtain ⟨_, _⟩ := s9
    exact nx_leaf rfl
set_option maxRecDepth 4000 in
theorem jM_takeStore {Γ : nx_G} {M0 : nx_M} {m : Nat} (u : Nat) (g : mS)   (X : nx_X) (Z : nx_Z) : nx_J Γ X (RX8, cX8_takeStore, 2, (some .int), "takeStore", 2) Z (fun r0 : Int32 × mS => .inr (some (.int r0.1), (mW Γ M0 m r0.2))) (.inl (0, [some (.ref m), none], [], (mW Γ M0 m g))) (fM_takeStore u g) := by
  unfold fM_takeStore
  refine nx_aload_n rfl dX8_takeStore_0 rfl ?_
  refine nx_aload_n rfl dX8_takeStore_1 rfl ?_
  refine nx_getf fl_8_105 mW_m rfl dX8_takeStore_2 rfl ?_
  refine m_put fl_8_142 ft_8_9 rfl rfl (Nat.le_of_ble_eq_true rfl) rfl dX8_takeStore_5 rfl (fun g1 => ?_)
  refine nx_iconst dX8_takeStore_8 rfl ?_
  refine nx_istore_n [some (.ref m), some (.int (iz 0))] dX8_takeStore_9 rfl (Nat.le_of_ble_eq_true rfl) rfl rfl ?_
  refine nx_seq (C1 := fun e5 : mS => .inl (33, [some (.ref m), none], [], (mW Γ M0 m e5))) (nx_loop (C1 := fun s2 : Int32 × mS => .inl (10, [some (.ref m), some (.int s2.1)], [], (mW Γ M0 m s2.2))) (fun s2 => jM_takeStore_10  X Z s2) ((iz 0), g1)) (fun e5 => ?_)
  refine nx_iconst dX8_takeStore_33 rfl ?_
  refine nx_istore_n [some (.ref m), some (.int (iz 0))] dX8_takeStore_34 rfl (Nat.le_of_ble_eq_true rfl) rfl rfl ?_
  refine nx_seq (C1 := fun e8 : mS => .inl (55, [some (.ref m), none], [], (mW Γ M0 m e8))) (nx_loop (C1 := fun s6 : Int32 × mS => .inl (35, [some (.ref m), some (.int s6.1)], [], (mW Γ M0 m s6.2))) (fun s6 => jM_takeStore_35  X Z s6) ((iz 0), e5)) (fun e8 => ?_)
  refine nx_iconst dX8_takeStore_55 rfl ?_
  refine nx_istore_n [some (.ref m), some (.int (iz 0))] dX8_takeStore_56 rfl (Nat.le_of_ble_eq_true rfl) rfl rfl ?_
  refine nx_seq (C1 := fun e17 : mS => .inl (110, [some (.ref m), none], [], (mW Γ M0 m e17))) (nx_loop (C1 := fun s9 : Int32 × mS => .inl (57, [some (.ref m), some (.int s9.1)], [], (mW Γ M0 m s9.2))) (fun s9 => jM_takeStore_57  u X Z s9) ((iz 0), e8)) (fun e17 => ?_)
  refine nx_aload_n rfl dX8_takeStore_110 rfl ?_
  refine nx_iconst dX8_takeStore_111 rfl ?_
  refine m_put fl_8_145 ft_8_19 rfl rfl (Nat.le_of_ble_eq_true rfl) rfl dX8_takeStore_112 rfl (fun g18 => ?_)
  refine nx_aload_n rfl dX8_takeStore_115 rfl ?_
  refine nx_iconst dX8_takeStore_116 rfl ?_
  refine m_put fl_8_148 ft_8_26 (by decide +kernel) (by decide +kernel) (Nat.le_of_ble_eq_true rfl) rfl dX8_takeStore_117 rfl (fun g19 => ?_)
  refine nx_aload_n rfl dX8_takeStore_120 rfl ?_
  refine nx_getf fl_8_142 mW_m rfl dX8_takeStore_121 rfl ?_
  exact nx_iret dX8_takeStore_124 rfl rfl
theorem cM_takeStore (l : Launch) {Γ : nx_G} {M0 : nx_M} {m : Nat} {u : Nat} {g : mS} {r : Int32 × mS}  (h : fM_takeStore u g = some r) : nx_Ct l Γ 2 yX8_takeStore cX8_takeStore 2 (some .int) [.ref m] (mW Γ M0 m g) (some (.int r.1), (mW Γ M0 m r.2)) :=
  nx_ct (out := fun r0 : Int32 × mS => (some (.int r0.1), (mW Γ M0 m r0.2))) [some (.ref m), none] pn_RX8 h (Nat.le_of_ble_eq_true rfl) rfl (fun X Z _ => jM_takeStore  u g X Z)
theorem dX8_text_0 : decode cX8_text 0 = .ok (.iload_n 1, 1) := by decide +kernel
theorem dX8_text_1 : decode cX8_text 1 = .ok (.ifCond .ne 21, 3) := by decide +kernel
theorem dX8_text_4 : decode cX8_text 4 = .ok (.aload_n 0, 1) := by decide +kernel
theorem dX8_text_5 : decode cX8_text 5 = .ok (.invokevirtual 126, 3) := by decide +kernel
theorem dX8_text_8 : decode cX8_text 8 = .ok (.iconst (-1), 1) := by decide +kernel
theorem dX8_text_9 : decode cX8_text 9 = .ok (.if_icmp .ne 13, 3) := by decide +kernel
theorem dX8_text_12 : decode cX8_text 12 = .ok (.aload_n 0, 1) := by decide +kernel
theorem dX8_text_13 : decode cX8_text 13 = .ok (.iconst 0, 1) := by decide +kernel
theorem dX8_text_14 : decode cX8_text 14 = .ok (.putfield 58, 3) := by decide +kernel
theorem dX8_text_17 : decode cX8_text 17 = .ok (.aload_n 0, 1) := by decide +kernel
theorem dX8_text_18 : decode cX8_text 18 = .ok (.invokevirtual 152, 3) := by decide +kernel
theorem dX8_text_21 : decode cX8_text 21 = .ok (.ireturn, 1) := by decide +kernel
theorem dX8_text_22 : decode cX8_text 22 = .ok (.iload_n 1, 1) := by decide +kernel
theorem dX8_text_23 : decode cX8_text 23 = .ok (.iconst 1, 1) := by decide +kernel
theorem dX8_text_24 : decode cX8_text 24 = .ok (.if_icmp .ne 45, 3) := by decide +kernel
theorem dX8_text_27 : decode cX8_text 27 = .ok (.aload_n 0, 1) := by decide +kernel
theorem dX8_text_28 : decode cX8_text 28 = .ok (.getfield 155, 3) := by decide +kernel
theorem dX8_text_31 : decode cX8_text 31 = .ok (.iconst 4, 1) := by decide +kernel
theorem dX8_text_32 : decode cX8_text 32 = .ok (.if_icmp .ge 37, 3) := by decide +kernel
theorem dX8_text_35 : decode cX8_text 35 = .ok (.aload_n 0, 1) := by decide +kernel
theorem dX8_text_36 : decode cX8_text 36 = .ok (.aload_n 0, 1) := by decide +kernel
theorem dX8_text_37 : decode cX8_text 37 = .ok (.getfield 155, 3) := by decide +kernel
theorem dX8_text_40 : decode cX8_text 40 = .ok (.invokevirtual 129, 3) := by decide +kernel
theorem dX8_text_43 : decode cX8_text 43 = .ok (.iconst (-1), 1) := by decide +kernel
theorem dX8_text_44 : decode cX8_text 44 = .ok (.if_icmp .ne 25, 3) := by decide +kernel
theorem dX8_text_47 : decode cX8_text 47 = .ok (.aload_n 0, 1) := by decide +kernel
theorem dX8_text_48 : decode cX8_text 48 = .ok (.iconst 0, 1) := by decide +kernel
theorem dX8_text_49 : decode cX8_text 49 = .ok (.putfield 58, 3) := by decide +kernel
theorem dX8_text_52 : decode cX8_text 52 = .ok (.aload_n 0, 1) := by decide +kernel
theorem dX8_text_53 : decode cX8_text 53 = .ok (.dup, 1) := by decide +kernel
theorem dX8_text_54 : decode cX8_text 54 = .ok (.getfield 155, 3) := by decide +kernel
theorem dX8_text_57 : decode cX8_text 57 = .ok (.iconst 1, 1) := by decide +kernel
theorem dX8_text_58 : decode cX8_text 58 = .ok (.iadd, 1) := by decide +kernel
theorem dX8_text_59 : decode cX8_text 59 = .ok (.putfield 155, 3) := by decide +kernel
theorem dX8_text_62 : decode cX8_text 62 = .ok (.aload_n 0, 1) := by decide +kernel
theorem dX8_text_63 : decode cX8_text 63 = .ok (.getfield 155, 3) := by decide +kernel
theorem dX8_text_66 : decode cX8_text 66 = .ok (.iconst 1, 1) := by decide +kernel
theorem dX8_text_67 : decode cX8_text 67 = .ok (.isub, 1) := by decide +kernel
theorem dX8_text_68 : decode cX8_text 68 = .ok (.ireturn, 1) := by decide +kernel
theorem dX8_text_69 : decode cX8_text 69 = .ok (.iconst (-1), 1) := by decide +kernel
theorem dX8_text_70 : decode cX8_text 70 = .ok (.ireturn, 1) := by decide +kernel
def fM_text (u : Nat) (g : mS) (a1 : Int32) : Option (Int32 × mS) :=
  if a1 = iz 0 then
    (fM_readStore u g).bind fun p4 =>
    if p4.1 = (iz (-1)) then
      (some (mFs p4.2 2 (iz 0))).bind fun g8 =>
      (fM_takeStore u g8).bind fun p9 =>
      some (p9.1, p9.2)
    else
      if a1 = (iz 1) then
        if (iz 4) ≤ (p4.2.1 0 12) then
          some ((iz (-1)), p4.2)
        else
          (fM_readScript u p4.2 (p4.2.1 0 12)).bind fun p5 =>
          if p5.1 = (iz (-1)) then
            (some (mFs p5.2 2 (iz 0))).bind fun g6 =>
            (some (mFs g6 12 ((g6.1 0 12) + (iz 1)))).bind fun g7 =>
            some (((g7.1 0 12) - (iz 1)), g7)
          else
            some ((iz (-1)), p5.2)
      else
        some ((iz (-1)), p4.2)
  else
    if a1 = (iz 1) then
      if (iz 4) ≤ (g.1 0 12) then
        some ((iz (-1)), g)
      else
        (fM_readScript u g (g.1 0 12)).bind fun p1 =>
        if p1.1 = (iz (-1)) then
          (some (mFs p1.2 2 (iz 0))).bind fun g2 =>
          (some (mFs g2 12 ((g2.1 0 12) + (iz 1)))).bind fun g3 =>
          some (((g3.1 0 12) - (iz 1)), g3)
        else
          some ((iz (-1)), p1.2)
    else
      some ((iz (-1)), g)
set_option maxRecDepth 4000 in
theorem jM_text {Γ : nx_G} {M0 : nx_M} {m : Nat} (u : Nat) (g : mS) (a1 : Int32)   (X : nx_X) (Z : nx_Z) : nx_J Γ X (RX8, cX8_text, 2, (some .int), "text", 6) Z (fun r0 : Int32 × mS => .inr (some (.int r0.1), (mW Γ M0 m r0.2))) (.inl (0, [some (.ref m), some (.int a1)], [], (mW Γ M0 m g))) (fM_text u g a1) := by
  unfold fM_text
  refine nx_iload_n rfl dX8_text_0 rfl ?_
  refine nx_if_ne (t := 22) dX8_text_1 (by decide) rfl ?_ ?_
  · refine nx_iload_n rfl dX8_text_22 rfl ?_
    refine nx_iconst dX8_text_23 rfl ?_
    refine nx_icmp_ne (t := 69) dX8_text_24 (by decide) rfl ?_ ?_
    · refine nx_iconst dX8_text_69 rfl ?_
      exact nx_iret dX8_text_70 rfl rfl
    · refine nx_aload_n rfl dX8_text_27 rfl ?_
      refine nx_getf fl_8_155 mW_m rfl dX8_text_28 rfl ?_
      refine nx_iconst dX8_text_31 rfl ?_
      refine nx_icmp_ge (t := 69) dX8_text_32 (by decide) rfl ?_ ?_
      · refine nx_iconst dX8_text_69 rfl ?_
        exact nx_iret dX8_text_70 rfl rfl
      · refine nx_aload_n rfl dX8_text_35 rfl ?_
        refine nx_aload_n rfl dX8_text_36 rfl ?_
        refine nx_getf fl_8_155 mW_m rfl dX8_text_37 rfl ?_
        refine nx_callVr [.int (g.1 0 12)] (fun r => .int r.1) (fun r => (mW Γ M0 m r.2)) cw_8_129 cv_X8_readScript (fun r e => cM_readScript X.2.1  e) mW_m rfl rfl (Nat.le_of_ble_eq_true rfl) (Nat.le_of_ble_eq_true rfl) dX8_text_40 rfl (fun p1 => ?_)
        refine nx_iconst dX8_text_43 rfl ?_
        refine nx_icmp_ne (t := 69) dX8_text_44 (by decide) rfl ?_ ?_
        · refine nx_iconst dX8_text_69 rfl ?_
          exact nx_iret dX8_text_70 rfl rfl
        · refine nx_aload_n rfl dX8_text_47 rfl ?_
          refine nx_iconst dX8_text_48 rfl ?_
          refine m_put fl_8_58 ft_8_2 rfl rfl (Nat.le_of_ble_eq_true rfl) rfl dX8_text_49 rfl (fun g2 => ?_)
          refine nx_aload_n rfl dX8_text_52 rfl ?_
          refine nx_dup rfl dX8_text_53 rfl ?_
          refine nx_getf fl_8_155 mW_m rfl dX8_text_54 rfl ?_
          refine nx_iconst dX8_text_57 rfl ?_
          refine nx_iadd dX8_text_58 rfl ?_
          refine m_put fl_8_155 ft_8_12 rfl rfl (Nat.le_of_ble_eq_true rfl) rfl dX8_text_59 rfl (fun g3 => ?_)
          refine nx_aload_n rfl dX8_text_62 rfl ?_
          refine nx_getf fl_8_155 mW_m rfl dX8_text_63 rfl ?_
          refine nx_iconst dX8_text_66 rfl ?_
          refine nx_isub dX8_text_67 rfl ?_
          exact nx_iret dX8_text_68 rfl rfl
  · refine nx_aload_n rfl dX8_text_4 rfl ?_
    refine nx_callVr [] (fun r => .int r.1) (fun r => (mW Γ M0 m r.2)) cw_8_126 cv_X8_readStore (fun r e => cM_readStore X.2.1  e) mW_m rfl rfl (Nat.le_of_ble_eq_true rfl) (Nat.le_of_ble_eq_true rfl) dX8_text_5 rfl (fun p4 => ?_)
    refine nx_iconst dX8_text_8 rfl ?_
    refine nx_icmp_ne (t := 22) dX8_text_9 (by decide) rfl ?_ ?_
    · refine nx_iload_n rfl dX8_text_22 rfl ?_
      refine nx_iconst dX8_text_23 rfl ?_
      refine nx_icmp_ne (t := 69) dX8_text_24 (by decide) rfl ?_ ?_
      · refine nx_iconst dX8_text_69 rfl ?_
        exact nx_iret dX8_text_70 rfl rfl
      · refine nx_aload_n rfl dX8_text_27 rfl ?_
        refine nx_getf fl_8_155 mW_m rfl dX8_text_28 rfl ?_
        refine nx_iconst dX8_text_31 rfl ?_
        refine nx_icmp_ge (t := 69) dX8_text_32 (by decide) rfl ?_ ?_
        · refine nx_iconst dX8_text_69 rfl ?_
          exact nx_iret dX8_text_70 rfl rfl
        · refine nx_aload_n rfl dX8_text_35 rfl ?_
          refine nx_aload_n rfl dX8_text_36 rfl ?_
          refine nx_getf fl_8_155 mW_m rfl dX8_text_37 rfl ?_
          refine nx_callVr [.int (p4.2.1 0 12)] (fun r => .int r.1) (fun r => (mW Γ M0 m r.2)) cw_8_129 cv_X8_readScript (fun r e => cM_readScript X.2.1  e) mW_m rfl rfl (Nat.le_of_ble_eq_true rfl) (Nat.le_of_ble_eq_true rfl) dX8_text_40 rfl (fun p5 => ?_)
          refine nx_iconst dX8_text_43 rfl ?_
          refine nx_icmp_ne (t := 69) dX8_text_44 (by decide) rfl ?_ ?_
          · refine nx_iconst dX8_text_69 rfl ?_
            exact nx_iret dX8_text_70 rfl rfl
          · refine nx_aload_n rfl dX8_text_47 rfl ?_
            refine nx_iconst dX8_text_48 rfl ?_
            refine m_put fl_8_58 ft_8_2 rfl rfl (Nat.le_of_ble_eq_true rfl) rfl dX8_text_49 rfl (fun g6 => ?_)
            refine nx_aload_n rfl dX8_text_52 rfl ?_
            refine nx_dup rfl dX8_text_53 rfl ?_
            refine nx_getf fl_8_155 mW_m rfl dX8_text_54 rfl ?_
            refine nx_iconst dX8_text_57 rfl ?_
            refine nx_iadd dX8_text_58 rfl ?_
            refine m_put fl_8_155 ft_8_12 rfl rfl (Nat.le_of_ble_eq_true rfl) rfl dX8_text_59 rfl (fun g7 => ?_)
            refine nx_aload_n rfl dX8_text_62 rfl ?_
            refine nx_getf fl_8_155 mW_m rfl dX8_text_63 rfl ?_
            refine nx_iconst dX8_text_66 rfl ?_
            refine nx_isub dX8_text_67 rfl ?_
            exact nx_iret dX8_text_68 rfl rfl
    · refine nx_aload_n rfl dX8_text_12 rfl ?_
      refine nx_iconst dX8_text_13 rfl ?_
      refine m_put fl_8_58 ft_8_2 rfl rfl (Nat.le_of_ble_eq_true rfl) rfl dX8_text_14 rfl (fun g8 => ?_)
      refine nx_aload_n rfl dX8_text_17 rfl ?_
      refine nx_callVr [] (fun r => .int r.1) (fun r => (mW Γ M0 m r.2)) cw_8_152 cv_X8_takeStore (fun r e => cM_takeStore X.2.1  e) mW_m rfl rfl (Nat.le_of_ble_eq_true rfl) (Nat.le_of_ble_eq_true rfl) dX8_text_18 rfl (fun p9 => ?_)
      exact nx_iret dX8_text_21 rfl rfl
theorem cM_text (l : Launch) {Γ : nx_G} {M0 : nx_M} {m : Nat} {u : Nat} {g : mS} {a1 : Int32} {r : Int32 × mS}  (h : fM_text u g a1 = some r) : nx_Ct l Γ 6 yX8_text cX8_text 2 (some .int) [.ref m, .int a1] (mW Γ M0 m g) (some (.int r.1), (mW Γ M0 m r.2)) :=
  nx_ct (out := fun r0 : Int32 × mS => (some (.int r0.1), (mW Γ M0 m r0.2))) [some (.ref m), some (.int a1)] pn_RX8 h (Nat.le_of_ble_eq_true rfl) rfl (fun X Z _ => jM_text  u g a1 X Z)
theorem dX8_isStore_0 : decode cX8_isStore 0 = .ok (.aload_n 0, 1) := by decide +kernel
theorem dX8_isStore_1 : decode cX8_isStore 1 = .ok (.getfield 142, 3) := by decide +kernel
theorem dX8_isStore_4 : decode cX8_isStore 4 = .ok (.ifCond .le 7, 3) := by decide +kernel
theorem dX8_isStore_7 : decode cX8_isStore 7 = .ok (.iconst 1, 1) := by decide +kernel
theorem dX8_isStore_8 : decode cX8_isStore 8 = .ok (.goto 4, 3) := by decide +kernel
theorem dX8_isStore_11 : decode cX8_isStore 11 = .ok (.iconst 0, 1) := by decide +kernel
theorem dX8_isStore_12 : decode cX8_isStore 12 = .ok (.ireturn, 1) := by decide +kernel
def fM_isStore (u : Nat) (g : mS) : Option (Bool) :=
  if (g.1 0 9) ≤ iz 0 then
    some false
  else
    some true
set_option maxRecDepth 4000 in
theorem jM_isStore {Γ : nx_G} {M0 : nx_M} {m : Nat} (u : Nat) (g : mS)   (X : nx_X) (Z : nx_Z) : nx_J Γ X (RX8, cX8_isStore, 1, (some .boolean), "isStore", 1) Z (fun r0 : Bool => .inr (some (.int (bz r0)), (mW Γ M0 m g))) (.inl (0, [some (.ref m)], [], (mW Γ M0 m g))) (fM_isStore u g) := by
  unfold fM_isStore
  refine nx_aload_n rfl dX8_isStore_0 rfl ?_
  refine nx_getf fl_8_142 mW_m rfl dX8_isStore_1 rfl ?_
  refine nx_if_le (t := 11) dX8_isStore_4 (by decide) rfl ?_ ?_
  · refine nx_iconst dX8_isStore_11 rfl ?_
    exact nx_zret (b := false) dX8_isStore_12 rfl rfl
  · refine nx_iconst dX8_isStore_7 rfl ?_
    refine nx_goto (q := 12) dX8_isStore_8 (by decide) ?_
    exact nx_zret (b := true) dX8_isStore_12 rfl rfl
theorem cM_isStore (l : Launch) {Γ : nx_G} {M0 : nx_M} {m : Nat} {u : Nat} {g : mS} {r : Bool}  (h : fM_isStore u g = some r) : nx_Ct l Γ 1 yX8_isStore cX8_isStore 1 (some .boolean) [.ref m] (mW Γ M0 m g) (some (.int (bz r)), (mW Γ M0 m g)) :=
  nx_ct (out := fun r0 : Bool => (some (.int (bz r0)), (mW Γ M0 m g))) [some (.ref m)] pn_RX8 h (Nat.le_of_ble_eq_true rfl) rfl (fun X Z _ => jM_isStore  u g X Z)
theorem dX8_isKey_0 : decode cX8_isKey 0 = .ok (.iload_n 1, 1) := by decide +kernel
theorem dX8_isKey_1 : decode cX8_isKey 1 = .ok (.iconst 0, 1) := by decide +kernel
theorem dX8_isKey_2 : decode cX8_isKey 2 = .ok (.aload_n 0, 1) := by decide +kernel
theorem dX8_isKey_3 : decode cX8_isKey 3 = .ok (.getfield 142, 3) := by decide +kernel
theorem dX8_isKey_6 : decode cX8_isKey 6 = .ok (.iconst 1, 1) := by decide +kernel
theorem dX8_isKey_7 : decode cX8_isKey 7 = .ok (.isub, 1) := by decide +kernel
theorem dX8_isKey_8 : decode cX8_isKey 8 = .ok (.invokestatic 61, 3) := by decide +kernel
theorem dX8_isKey_11 : decode cX8_isKey 11 = .ok (.ireturn, 1) := by decide +kernel
def fM_isKey (u : Nat) (g : mS) (a1 : Int32) : Option (Bool) :=
  (fM_in u a1 (iz 0) ((g.1 0 9) - (iz 1))).bind fun b1 =>
  some b1
set_option maxRecDepth 4000 in
theorem jM_isKey {Γ : nx_G} {M0 : nx_M} {m : Nat} (u : Nat) (g : mS) (a1 : Int32)   (X : nx_X) (Z : nx_Z) : nx_J Γ X (RX8, cX8_isKey, 2, (some .boolean), "isKey", 2) Z (fun r0 : Bool => .inr (some (.int (bz r0)), (mW Γ M0 m g))) (.inl (0, [some (.ref m), some (.int a1)], [], (mW Γ M0 m g))) (fM_isKey u g a1) := by
  unfold fM_isKey
  refine nx_iload_n rfl dX8_isKey_0 rfl ?_
  refine nx_iconst dX8_isKey_1 rfl ?_
  refine nx_aload_n rfl dX8_isKey_2 rfl ?_
  refine nx_getf fl_8_142 mW_m rfl dX8_isKey_3 rfl ?_
  refine nx_iconst dX8_isKey_6 rfl ?_
  refine nx_isub dX8_isKey_7 rfl ?_
  refine nx_callSr [.int a1, .int (iz 0), .int ((g.1 0 9) - (iz 1))] (fun r => .int (bz r)) (fun _ => (mW Γ M0 m g)) cw_8_61 wd_1243 (fun r e => cM_in X.2.1  e) rfl rfl (Nat.le_of_ble_eq_true rfl) (Nat.le_of_ble_eq_true rfl) dX8_isKey_8 rfl (fun b1 => ?_)
  exact nx_zret dX8_isKey_11 rfl rfl
theorem cM_isKey (l : Launch) {Γ : nx_G} {M0 : nx_M} {m : Nat} {u : Nat} {g : mS} {a1 : Int32} {r : Bool}  (h : fM_isKey u g a1 = some r) : nx_Ct l Γ 2 yX8_isKey cX8_isKey 2 (some .boolean) [.ref m, .int a1] (mW Γ M0 m g) (some (.int (bz r)), (mW Γ M0 m g)) :=
  nx_ct (out := fun r0 : Bool => (some (.int (bz r0)), (mW Γ M0 m g))) [some (.ref m), some (.int a1)] pn_RX8 h (Nat.le_of_ble_eq_true rfl) rfl (fun X Z _ => jM_isKey  u g a1 X Z)
theorem dX8_isSeat_0 : decode cX8_isSeat 0 = .ok (.aload_n 0, 1) := by decide +kernel
theorem dX8_isSeat_1 : decode cX8_isSeat 1 = .ok (.invokevirtual 158, 3) := by decide +kernel
theorem dX8_isSeat_4 : decode cX8_isSeat 4 = .ok (.ifCond .eq 17, 3) := by decide +kernel
theorem dX8_isSeat_7 : decode cX8_isSeat 7 = .ok (.iload_n 1, 1) := by decide +kernel
theorem dX8_isSeat_8 : decode cX8_isSeat 8 = .ok (.iconst 0, 1) := by decide +kernel
theorem dX8_isSeat_9 : decode cX8_isSeat 9 = .ok (.bipush 7, 2) := by decide +kernel
theorem dX8_isSeat_11 : decode cX8_isSeat 11 = .ok (.invokestatic 61, 3) := by decide +kernel
theorem dX8_isSeat_14 : decode cX8_isSeat 14 = .ok (.ifCond .eq 7, 3) := by decide +kernel
theorem dX8_isSeat_17 : decode cX8_isSeat 17 = .ok (.iconst 1, 1) := by decide +kernel
theorem dX8_isSeat_18 : decode cX8_isSeat 18 = .ok (.goto 4, 3) := by decide +kernel
theorem dX8_isSeat_21 : decode cX8_isSeat 21 = .ok (.iconst 0, 1) := by decide +kernel
theorem dX8_isSeat_22 : decode cX8_isSeat 22 = .ok (.ireturn, 1) := by decide +kernel
def fM_isSeat (u : Nat) (g : mS) (a1 : Int32) : Option (Bool) :=
  (fM_isStore u g).bind fun b1 =>
  if b1 = true then
    (fM_in u a1 (iz 0) (iz 7)).bind fun b2 =>
    if b2 = true then
      some true
    else
      some false
  else
    some false
set_option maxRecDepth 4000 in
theorem jM_isSeat {Γ : nx_G} {M0 : nx_M} {m : Nat} (u : Nat) (g : mS) (a1 : Int32)   (X : nx_X) (Z : nx_Z) : nx_J Γ X (RX8, cX8_isSeat, 2, (some .boolean), "isSeat", 2) Z (fun r0 : Bool => .inr (some (.int (bz r0)), (mW Γ M0 m g))) (.inl (0, [some (.ref m), some (.int a1)], [], (mW Γ M0 m g))) (fM_isSeat u g a1) := by
  unfold fM_isSeat
  refine nx_aload_n rfl dX8_isSeat_0 rfl ?_
  refine nx_callVr [] (fun r => .int (bz r)) (fun _ => (mW Γ M0 m g)) cw_8_158 cv_X8_isStore (fun r e => cM_isStore X.2.1  e) mW_m rfl rfl (Nat.le_of_ble_eq_true rfl) (Nat.le_of_ble_eq_true rfl) dX8_isSeat_1 rfl (fun b1 => ?_)
  refine nx_ifz_eq (t := 21) dX8_isSeat_4 (by decide) rfl ?_ ?_
  · refine nx_iconst dX8_isSeat_21 rfl ?_
    exact nx_zret (b := false) dX8_isSeat_22 rfl rfl
  · refine nx_iload_n rfl dX8_isSeat_7 rfl ?_
    refine nx_iconst dX8_isSeat_8 rfl ?_
    refine nx_bipush (by decide +kernel) dX8_isSeat_9 rfl ?_
    refine nx_callSr [.int a1, .int (iz 0), .int (iz 7)] (fun r => .int (bz r)) (fun _ => (mW Γ M0 m g)) cw_8_61 wd_1243 (fun r e => cM_in X.2.1  e) rfl rfl (Nat.le_of_ble_eq_true rfl) (Nat.le_of_ble_eq_true rfl) dX8_isSeat_11 rfl (fun b2 => ?_)
    refine nx_ifz_eq (t := 21) dX8_isSeat_14 (by decide) rfl ?_ ?_
    · refine nx_iconst dX8_isSeat_21 rfl ?_
      exact nx_zret (b := false) dX8_isSeat_22 rfl rfl
    · refine nx_iconst dX8_isSeat_17 rfl ?_
      refine nx_goto (q := 22) dX8_isSeat_18 (by decide) ?_
      exact nx_zret (b := true) dX8_isSeat_22 rfl rfl
theorem cM_isSeat (l : Launch) {Γ : nx_G} {M0 : nx_M} {m : Nat} {u : Nat} {g : mS} {a1 : Int32} {r : Bool}  (h : fM_isSeat u g a1 = some r) : nx_Ct l Γ 2 yX8_isSeat cX8_isSeat 2 (some .boolean) [.ref m, .int a1] (mW Γ M0 m g) (some (.int (bz r)), (mW Γ M0 m g)) :=
  nx_ct (out := fun r0 : Bool => (some (.int (bz r0)), (mW Γ M0 m g))) [some (.ref m), some (.int a1)] pn_RX8 h (Nat.le_of_ble_eq_true rfl) rfl (fun X Z _ => jM_isSeat  u g a1 X Z)
theorem dX8_isThere_0 : decode cX8_isThere 0 = .ok (.aload_n 0, 1) := by decide +kernel
theorem dX8_isThere_1 : decode cX8_isThere 1 = .ok (.iload_n 1, 1) := by decide +kernel
theorem dX8_isThere_2 : decode cX8_isThere 2 = .ok (.invokevirtual 162, 3) := by decide +kernel
theorem dX8_isThere_5 : decode cX8_isThere 5 = .ok (.ifCond .eq 16, 3) := by decide +kernel
theorem dX8_isThere_8 : decode cX8_isThere 8 = .ok (.aload_n 0, 1) := by decide +kernel
theorem dX8_isThere_9 : decode cX8_isThere 9 = .ok (.iload_n 1, 1) := by decide +kernel
theorem dX8_isThere_10 : decode cX8_isThere 10 = .ok (.iconst 0, 1) := by decide +kernel
theorem dX8_isThere_11 : decode cX8_isThere 11 = .ok (.invokevirtual 165, 3) := by decide +kernel
theorem dX8_isThere_14 : decode cX8_isThere 14 = .ok (.ifCond .eq 7, 3) := by decide +kernel
theorem dX8_isThere_17 : decode cX8_isThere 17 = .ok (.iconst 1, 1) := by decide +kernel
theorem dX8_isThere_18 : decode cX8_isThere 18 = .ok (.goto 4, 3) := by decide +kernel
theorem dX8_isThere_21 : decode cX8_isThere 21 = .ok (.iconst 0, 1) := by decide +kernel
theorem dX8_isThere_22 : decode cX8_isThere 22 = .ok (.ireturn, 1) := by decide +kernel
def fM_isThere (u : Nat) (g : mS) (a1 : Int32) : Option (Bool) :=
  (fM_isSeat u g a1).bind fun b1 =>
  if b1 = true then
    (fM_of u g a1 (iz 0)).bind fun x2 =>
    if x2 = iz 0 then
      some false
    else
      some true
  else
    some false
set_option maxRecDepth 4000 in
theorem jM_isThere {Γ : nx_G} {M0 : nx_M} {m : Nat} (u : Nat) (g : mS) (a1 : Int32)   (X : nx_X) (Z : nx_Z) : nx_J Γ X (RX8, cX8_isThere, 2, (some .boolean), "isThere", 3) Z (fun r0 : Bool => .inr (some (.int (bz r0)), (mW Γ M0 m g))) (.inl (0, [some (.ref m), some (.int a1)], [], (mW Γ M0 m g))) (fM_isThere u g a1) := by
  unfold fM_isThere
  refine nx_aload_n rfl dX8_isThere_0 rfl ?_
  refine nx_iload_n rfl dX8_isThere_1 rfl ?_
  refine nx_callVr [.int a1] (fun r => .int (bz r)) (fun _ => (mW Γ M0 m g)) cw_8_162 cv_X8_isSeat (fun r e => cM_isSeat X.2.1  e) mW_m rfl rfl (Nat.le_of_ble_eq_true rfl) (Nat.le_of_ble_eq_true rfl) dX8_isThere_2 rfl (fun b1 => ?_)
  refine nx_ifz_eq (t := 21) dX8_isThere_5 (by decide) rfl ?_ ?_
  · refine nx_iconst dX8_isThere_21 rfl ?_
    exact nx_zret (b := false) dX8_isThere_22 rfl rfl
  · refine nx_aload_n rfl dX8_isThere_8 rfl ?_
    refine nx_iload_n rfl dX8_isThere_9 rfl ?_
    refine nx_iconst dX8_isThere_10 rfl ?_
    refine nx_callVr [.int a1, .int (iz 0)] (fun r => .int r) (fun _ => (mW Γ M0 m g)) cw_8_165 cv_X8_of (fun r e => cM_of X.2.1  e) mW_m rfl rfl (Nat.le_of_ble_eq_true rfl) (Nat.le_of_ble_eq_true rfl) dX8_isThere_11 rfl (fun x2 => ?_)
    refine nx_if_eq (t := 21) dX8_isThere_14 (by decide) rfl ?_ ?_
    · refine nx_iconst dX8_isThere_21 rfl ?_
      exact nx_zret (b := false) dX8_isThere_22 rfl rfl
    · refine nx_iconst dX8_isThere_17 rfl ?_
      refine nx_goto (q := 22) dX8_isThere_18 (by decide) ?_
      exact nx_zret (b := true) dX8_isThere_22 rfl rfl
theorem cM_isThere (l : Launch) {Γ : nx_G} {M0 : nx_M} {m : Nat} {u : Nat} {g : mS} {a1 : Int32} {r : Bool}  (h : fM_isThere u g a1 = some r) : nx_Ct l Γ 3 yX8_isThere cX8_isThere 2 (some .boolean) [.ref m, .int a1] (mW Γ M0 m g) (some (.int (bz r)), (mW Γ M0 m g)) :=
  nx_ct (out := fun r0 : Bool => (some (.int (bz r0)), (mW Γ M0 m g))) [some (.ref m), some (.int a1)] pn_RX8 h (Nat.le_of_ble_eq_true rfl) rfl (fun X Z _ => jM_isThere  u g a1 X Z)
theorem dX8_isActive_0 : decode cX8_isActive 0 = .ok (.aload_n 0, 1) := by decide +kernel
theorem dX8_isActive_1 : decode cX8_isActive 1 = .ok (.iload_n 1, 1) := by decide +kernel
theorem dX8_isActive_2 : decode cX8_isActive 2 = .ok (.invokevirtual 162, 3) := by decide +kernel
theorem dX8_isActive_5 : decode cX8_isActive 5 = .ok (.ifCond .eq 17, 3) := by decide +kernel
theorem dX8_isActive_8 : decode cX8_isActive 8 = .ok (.aload_n 0, 1) := by decide +kernel
theorem dX8_isActive_9 : decode cX8_isActive 9 = .ok (.iload_n 1, 1) := by decide +kernel
theorem dX8_isActive_10 : decode cX8_isActive 10 = .ok (.iconst 0, 1) := by decide +kernel
theorem dX8_isActive_11 : decode cX8_isActive 11 = .ok (.invokevirtual 165, 3) := by decide +kernel
theorem dX8_isActive_14 : decode cX8_isActive 14 = .ok (.iconst 1, 1) := by decide +kernel
theorem dX8_isActive_15 : decode cX8_isActive 15 = .ok (.if_icmp .ne 7, 3) := by decide +kernel
theorem dX8_isActive_18 : decode cX8_isActive 18 = .ok (.iconst 1, 1) := by decide +kernel
theorem dX8_isActive_19 : decode cX8_isActive 19 = .ok (.goto 4, 3) := by decide +kernel
theorem dX8_isActive_22 : decode cX8_isActive 22 = .ok (.iconst 0, 1) := by decide +kernel
theorem dX8_isActive_23 : decode cX8_isActive 23 = .ok (.ireturn, 1) := by decide +kernel
def fM_isActive (u : Nat) (g : mS) (a1 : Int32) : Option (Bool) :=
  (fM_isSeat u g a1).bind fun b1 =>
  if b1 = true then
    (fM_of u g a1 (iz 0)).bind fun x2 =>
    if x2 = (iz 1) then
      some true
    else
      some false
  else
    some false
set_option maxRecDepth 4000 in
theorem jM_isActive {Γ : nx_G} {M0 : nx_M} {m : Nat} (u : Nat) (g : mS) (a1 : Int32)   (X : nx_X) (Z : nx_Z) : nx_J Γ X (RX8, cX8_isActive, 2, (some .boolean), "isActive", 3) Z (fun r0 : Bool => .inr (some (.int (bz r0)), (mW Γ M0 m g))) (.inl (0, [some (.ref m), some (.int a1)], [], (mW Γ M0 m g))) (fM_isActive u g a1) := by
  unfold fM_isActive
  refine nx_aload_n rfl dX8_isActive_0 rfl ?_
  refine nx_iload_n rfl dX8_isActive_1 rfl ?_
  refine nx_callVr [.int a1] (fun r => .int (bz r)) (fun _ => (mW Γ M0 m g)) cw_8_162 cv_X8_isSeat (fun r e => cM_isSeat X.2.1  e) mW_m rfl rfl (Nat.le_of_ble_eq_true rfl) (Nat.le_of_ble_eq_true rfl) dX8_isActive_2 rfl (fun b1 => ?_)
  refine nx_ifz_eq (t := 22) dX8_isActive_5 (by decide) rfl ?_ ?_
  · refine nx_iconst dX8_isActive_22 rfl ?_
    exact nx_zret (b := false) dX8_isActive_23 rfl rfl
  · refine nx_aload_n rfl dX8_isActive_8 rfl ?_
    refine nx_iload_n rfl dX8_isActive_9 rfl ?_
    refine nx_iconst dX8_isActive_10 rfl ?_
    refine nx_callVr [.int a1, .int (iz 0)] (fun r => .int r) (fun _ => (mW Γ M0 m g)) cw_8_165 cv_X8_of (fun r e => cM_of X.2.1  e) mW_m rfl rfl (Nat.le_of_ble_eq_true rfl) (Nat.le_of_ble_eq_true rfl) dX8_isActive_11 rfl (fun x2 => ?_)
    refine nx_iconst dX8_isActive_14 rfl ?_
    refine nx_icmp_ne (t := 22) dX8_isActive_15 (by decide) rfl ?_ ?_
    · refine nx_iconst dX8_isActive_22 rfl ?_
      exact nx_zret (b := false) dX8_isActive_23 rfl rfl
    · refine nx_iconst dX8_isActive_18 rfl ?_
      refine nx_goto (q := 23) dX8_isActive_19 (by decide) ?_
      exact nx_zret (b := true) dX8_isActive_23 rfl rfl
theorem cM_isActive (l : Launch) {Γ : nx_G} {M0 : nx_M} {m : Nat} {u : Nat} {g : mS} {a1 : Int32} {r : Bool}  (h : fM_isActive u g a1 = some r) : nx_Ct l Γ 3 yX8_isActive cX8_isActive 2 (some .boolean) [.ref m, .int a1] (mW Γ M0 m g) (some (.int (bz r)), (mW Γ M0 m g)) :=
  nx_ct (out := fun r0 : Bool => (some (.int (bz r0)), (mW Γ M0 m g))) [some (.ref m), some (.int a1)] pn_RX8 h (Nat.le_of_ble_eq_true rfl) rfl (fun X Z _ => jM_isActive  u g a1 X Z)
theorem dX8_isOn_0 : decode cX8_isOn 0 = .ok (.aload_n 0, 1) := by decide +kernel
theorem dX8_isOn_1 : decode cX8_isOn 1 = .ok (.iload_n 1, 1) := by decide +kernel
theorem dX8_isOn_2 : decode cX8_isOn 2 = .ok (.invokevirtual 162, 3) := by decide +kernel
theorem dX8_isOn_5 : decode cX8_isOn 5 = .ok (.ifCond .eq 21, 3) := by decide +kernel
theorem dX8_isOn_8 : decode cX8_isOn 8 = .ok (.aload_n 0, 1) := by decide +kernel
theorem dX8_isOn_9 : decode cX8_isOn 9 = .ok (.iload_n 1, 1) := by decide +kernel
theorem dX8_isOn_10 : decode cX8_isOn 10 = .ok (.iconst 0, 1) := by decide +kernel
theorem dX8_isOn_11 : decode cX8_isOn 11 = .ok (.invokevirtual 165, 3) := by decide +kernel
theorem dX8_isOn_14 : decode cX8_isOn 14 = .ok (.iconst 1, 1) := by decide +kernel
theorem dX8_isOn_15 : decode cX8_isOn 15 = .ok (.iconst 2, 1) := by decide +kernel
theorem dX8_isOn_16 : decode cX8_isOn 16 = .ok (.invokestatic 61, 3) := by decide +kernel
theorem dX8_isOn_19 : decode cX8_isOn 19 = .ok (.ifCond .eq 7, 3) := by decide +kernel
theorem dX8_isOn_22 : decode cX8_isOn 22 = .ok (.iconst 1, 1) := by decide +kernel
theorem dX8_isOn_23 : decode cX8_isOn 23 = .ok (.goto 4, 3) := by decide +kernel
theorem dX8_isOn_26 : decode cX8_isOn 26 = .ok (.iconst 0, 1) := by decide +kernel
theorem dX8_isOn_27 : decode cX8_isOn 27 = .ok (.ireturn, 1) := by decide +kernel
def fM_isOn (u : Nat) (g : mS) (a1 : Int32) : Option (Bool) :=
  (fM_isSeat u g a1).bind fun b1 =>
  if b1 = true then
    (fM_of u g a1 (iz 0)).bind fun x2 =>
    (fM_in u x2 (iz 1) (iz 2)).bind fun b3 =>
    if b3 = true then
      some true
    else
      some false
  else
    some false
set_option maxRecDepth 4000 in
theorem jM_isOn {Γ : nx_G} {M0 : nx_M} {m : Nat} (u : Nat) (g : mS) (a1 : Int32)   (X : nx_X) (Z : nx_Z) : nx_J Γ X (RX8, cX8_isOn, 2, (some .boolean), "isOn", 3) Z (fun r0 : Bool => .inr (some (.int (bz r0)), (mW Γ M0 m g))) (.inl (0, [some (.ref m), some (.int a1)], [], (mW Γ M0 m g))) (fM_isOn u g a1) := by
  unfold fM_isOn
  refine nx_aload_n rfl dX8_isOn_0 rfl ?_
  refine nx_iload_n rfl dX8_isOn_1 rfl ?_
  refine nx_callVr [.int a1] (fun r => .int (bz r)) (fun _ => (mW Γ M0 m g)) cw_8_162 cv_X8_isSeat (fun r e => cM_isSeat X.2.1  e) mW_m rfl rfl (Nat.le_of_ble_eq_true rfl) (Nat.le_of_ble_eq_true rfl) dX8_isOn_2 rfl (fun b1 => ?_)
  refine nx_ifz_eq (t := 26) dX8_isOn_5 (by decide) rfl ?_ ?_
  · refine nx_iconst dX8_isOn_26 rfl ?_
    exact nx_zret (b := false) dX8_isOn_27 rfl rfl
  · refine nx_aload_n rfl dX8_isOn_8 rfl ?_
    refine nx_iload_n rfl dX8_isOn_9 rfl ?_
    refine nx_iconst dX8_isOn_10 rfl ?_
    refine nx_callVr [.int a1, .int (iz 0)] (fun r => .int r) (fun _ => (mW Γ M0 m g)) cw_8_165 cv_X8_of (fun r e => cM_of X.2.1  e) mW_m rfl rfl (Nat.le_of_ble_eq_true rfl) (Nat.le_of_ble_eq_true rfl) dX8_isOn_11 rfl (fun x2 => ?_)
    refine nx_iconst dX8_isOn_14 rfl ?_
    refine nx_iconst dX8_isOn_15 rfl ?_
    refine nx_callSr [.int x2, .int (iz 1), .int (iz 2)] (fun r => .int (bz r)) (fun _ => (mW Γ M0 m g)) cw_8_61 wd_1243 (fun r e => cM_in X.2.1  e) rfl rfl (Nat.le_of_ble_eq_true rfl) (Nat.le_of_ble_eq_true rfl) dX8_isOn_16 rfl (fun b3 => ?_)
    refine nx_ifz_eq (t := 26) dX8_isOn_19 (by decide) rfl ?_ ?_
    · refine nx_iconst dX8_isOn_26 rfl ?_
      exact nx_zret (b := false) dX8_isOn_27 rfl rfl
    · refine nx_iconst dX8_isOn_22 rfl ?_
      refine nx_goto (q := 27) dX8_isOn_23 (by decide) ?_
      exact nx_zret (b := true) dX8_isOn_27 rfl rfl
theorem cM_isOn (l : Launch) {Γ : nx_G} {M0 : nx_M} {m : Nat} {u : Nat} {g : mS} {a1 : Int32} {r : Bool}  (h : fM_isOn u g a1 = some r) : nx_Ct l Γ 3 yX8_isOn cX8_isOn 2 (some .boolean) [.ref m, .int a1] (mW Γ M0 m g) (some (.int (bz r)), (mW Γ M0 m g)) :=
  nx_ct (out := fun r0 : Bool => (some (.int (bz r0)), (mW Γ M0 m g))) [some (.ref m), some (.int a1)] pn_RX8 h (Nat.le_of_ble_eq_true rfl) rfl (fun X Z _ => jM_isOn  u g a1 X Z)
theorem dX8_those_0 : decode cX8_those 0 = .ok (.iconst 0, 1) := by decide +kernel
theorem dX8_those_1 : decode cX8_those 1 = .ok (.istore_n 2, 1) := by decide +kernel
theorem dX8_those_2 : decode cX8_those 2 = .ok (.iconst 0, 1) := by decide +kernel
theorem dX8_those_3 : decode cX8_those 3 = .ok (.istore_n 3, 1) := by decide +kernel
theorem dX8_those_4 : decode cX8_those 4 = .ok (.iload_n 3, 1) := by decide +kernel
theorem dX8_those_5 : decode cX8_those 5 = .ok (.bipush 8, 2) := by decide +kernel
theorem dX8_those_7 : decode cX8_those 7 = .ok (.if_icmp .ge 29, 3) := by decide +kernel
theorem dX8_those_10 : decode cX8_those 10 = .ok (.iload_n 2, 1) := by decide +kernel
theorem dX8_those_11 : decode cX8_those 11 = .ok (.aload_n 0, 1) := by decide +kernel
theorem dX8_those_12 : decode cX8_those 12 = .ok (.iload_n 3, 1) := by decide +kernel
theorem dX8_those_13 : decode cX8_those 13 = .ok (.iconst 0, 1) := by decide +kernel
theorem dX8_those_14 : decode cX8_those 14 = .ok (.invokevirtual 165, 3) := by decide +kernel
theorem dX8_those_17 : decode cX8_those 17 = .ok (.iload_n 1, 1) := by decide +kernel
theorem dX8_those_18 : decode cX8_those 18 = .ok (.if_icmp .ne 9, 3) := by decide +kernel
theorem dX8_those_21 : decode cX8_those 21 = .ok (.iconst 1, 1) := by decide +kernel
theorem dX8_those_22 : decode cX8_those 22 = .ok (.iload_n 3, 1) := by decide +kernel
theorem dX8_those_23 : decode cX8_those 23 = .ok (.ishl, 1) := by decide +kernel
theorem dX8_those_24 : decode cX8_those 24 = .ok (.goto 4, 3) := by decide +kernel
theorem dX8_those_27 : decode cX8_those 27 = .ok (.iconst 0, 1) := by decide +kernel
theorem dX8_those_28 : decode cX8_those 28 = .ok (.ior, 1) := by decide +kernel
theorem dX8_those_29 : decode cX8_those 29 = .ok (.istore_n 2, 1) := by decide +kernel
theorem dX8_those_30 : decode cX8_those 30 = .ok (.iinc 3 1, 3) := by decide +kernel
theorem dX8_those_33 : decode cX8_those 33 = .ok (.goto (-29), 3) := by decide +kernel
theorem dX8_those_36 : decode cX8_those 36 = .ok (.iload_n 2, 1) := by decide +kernel
theorem dX8_those_37 : decode cX8_those 37 = .ok (.ireturn, 1) := by decide +kernel
def fM_those_4 (u : Nat) (g : mS) (a1 : Int32) (s1 : Int32 × Int32) : Option ((Int32 × Int32) ⊕ (Int32)) :=
  if (iz 8) ≤ s1.2 then
    some (.inr s1.1)
  else
    (fM_of u g s1.2 (iz 0)).bind fun x2 =>
    (if x2 = a1 then
       some ((iz 1) <<< (s1.2 &&& 31))
     else
       some (iz 0) : Option (Int32)).bind fun s3 =>
    some (.inl ((s1.1 ||| s3), (s1.2 + iz 1)))
def fM_those (u : Nat) (g : mS) (a1 : Int32) : Option (Int32) :=
  (nx_iter u (fM_those_4 u g a1) ((iz 0), (iz 0))).bind fun e4 =>
  some e4
set_option maxRecDepth 4000 in
theorem jM_those_4 {Γ : nx_G} {M0 : nx_M} {m : Nat} (u : Nat) (g : mS) (a1 : Int32)   (X : nx_X) (Z : nx_Z) (s1 : Int32 × Int32) : nx_J Γ X (RX8, cX8_those, 4, (some .int), "those", 3) Z (Sum.elim (fun s1 : Int32 × Int32 => .inl (4, [some (.ref m), some (.int a1), some (.int s1.1), some (.int s1.2)], [], (mW Γ M0 m g))) (fun e4 : Int32 => .inl (36, [some (.ref m), some (.int a1), some (.int e4), none], [], (mW Γ M0 m g)))) (.inl (4, [some (.ref m), some (.int a1), some (.int s1.1), some (.int s1.2)], [], (mW Γ M0 m g))) (fM_those_4 u g a1 s1) := by
  unfold fM_those_4
  refine nx_iload_n rfl dX8_those_4 rfl ?_
  refine nx_bipush (by decide +kernel) dX8_those_5 rfl ?_
  refine nx_icmp_ge (t := 36) dX8_those_7 (by decide) rfl ?_ ?_
  · refine nx_weak (ls' := [some (.ref m), some (.int a1), some (.int s1.1), none]) (nx_wk_s (nx_wk_s (nx_wk_s (nx_wk_n nx_wk_e)))) ?_
    obtain ⟨_, _⟩ := s1
    exact nx_leaf rfl
  · refine nx_iload_n rfl dX8_those_10 rfl ?_
    refine nx_aload_n rfl dX8_those_11 rfl ?_
    refine nx_iload_n rfl dX8_those_12 rfl ?_
    refine nx_iconst dX8_those_13 rfl ?_
    refine nx_callVr [.int s1.2, .int (iz 0)] (fun r => .int r) (fun _ => (mW Γ M0 m g)) cw_8_165 cv_X8_of (fun r e => cM_of X.2.1  e) mW_m rfl rfl (Nat.le_of_ble_eq_true rfl) (Nat.le_of_ble_eq_true rfl) dX8_those_14 rfl (fun x2 => ?_)
    refine nx_iload_n rfl dX8_those_17 rfl ?_
    refine nx_seq (C1 := fun s3 : Int32 => .inl (28, [some (.ref m), some (.int a1), some (.int s1.1), some (.int s1.2)], [.int s3, .int s1.1], (mW Γ M0 m g))) ?_ (fun s3 => ?_)
    · refine nx_icmp_ne (t := 27) dX8_those_18 (by decide) rfl ?_ ?_
      · refine nx_iconst dX8_those_27 rfl ?_
        obtain ⟨_, _⟩ := s1
        exact nx_leaf rfl
      · refine nx_iconst dX8_those_21 rfl ?_
        refine nx_iload_n rfl dX8_those_22 rfl ?_
        refine nx_ishl dX8_those_23 rfl ?_
        refine nx_goto (q := 28) dX8_those_24 (by decide) ?_
        obtain ⟨_, _⟩ := s1
        exact nx_leaf rfl
    refine nx_ior dX8_those_28 rfl ?_
    refine nx_istore_n [some (.ref m), some (.int a1), some (.int (s1.1 ||| s3)), some (.int s1.2)] dX8_those_29 rfl (Nat.le_of_ble_eq_true rfl) rfl rfl ?_
    refine nx_iinc [some (.ref m), some (.int a1), some (.int (s1.1 ||| s3)), some (.int (s1.2 + iz 1))] dX8_those_30 rfl rfl (Nat.le_of_ble_eq_true rfl) rfl rfl ?_
    refine nx_goto (q := 4) dX8_those_33 (by decide) ?_
    obtain ⟨_, _⟩ := s1
    exact nx_leaf rfl
set_option maxRecDepth 4000 in
theorem jM_those {Γ : nx_G} {M0 : nx_M} {m : Nat} (u : Nat) (g : mS) (a1 : Int32)   (X : nx_X) (Z : nx_Z) : nx_J Γ X (RX8, cX8_those, 4, (some .int), "those", 3) Z (fun r0 : Int32 => .inr (some (.int r0), (mW Γ M0 m g))) (.inl (0, [some (.ref m), some (.int a1), none, none], [], (mW Γ M0 m g))) (fM_those u g a1) := by
  unfold fM_those
  refine nx_iconst dX8_those_0 rfl ?_
  refine nx_istore_n [some (.ref m), some (.int a1), some (.int (iz 0)), none] dX8_those_1 rfl (Nat.le_of_ble_eq_true rfl) rfl rfl ?_
  refine nx_iconst dX8_those_2 rfl ?_
  refine nx_istore_n [some (.ref m), some (.int a1), some (.int (iz 0)), some (.int (iz 0))] dX8_those_3 rfl (Nat.le_of_ble_eq_true rfl) rfl rfl ?_
  refine nx_seq (C1 := fun e4 : Int32 => .inl (36, [some (.ref m), some (.int a1), some (.int e4), none], [], (mW Γ M0 m g))) (nx_loop (C1 := fun s1 : Int32 × Int32 => .inl (4, [some (.ref m), some (.int a1), some (.int s1.1), some (.int s1.2)], [], (mW Γ M0 m g))) (fun s1 => jM_those_4  u g a1 X Z s1) ((iz 0), (iz 0))) (fun e4 => ?_)
  refine nx_iload_n rfl dX8_those_36 rfl ?_
  exact nx_iret dX8_those_37 rfl rfl
theorem cM_those (l : Launch) {Γ : nx_G} {M0 : nx_M} {m : Nat} {u : Nat} {g : mS} {a1 : Int32} {r : Int32}  (h : fM_those u g a1 = some r) : nx_Ct l Γ 3 yX8_those cX8_those 4 (some .int) [.ref m, .int a1] (mW Γ M0 m g) (some (.int r), (mW Γ M0 m g)) :=
  nx_ct (out := fun r0 : Int32 => (some (.int r0), (mW Γ M0 m g))) [some (.ref m), some (.int a1), none, none] pn_RX8 h (Nat.le_of_ble_eq_true rfl) rfl (fun X Z _ => jM_those  u g a1 X Z)
theorem dX8_note_0 : decode cX8_note 0 = .ok (.aload_n 0, 1) := by decide +kernel
theorem dX8_note_1 : decode cX8_note 1 = .ok (.getfield 168, 3) := by decide +kernel
theorem dX8_note_4 : decode cX8_note 4 = .ok (.ifCond .eq 4, 3) := by decide +kernel
theorem dX8_note_7 : decode cX8_note 7 = .ok (.return_, 1) := by decide +kernel
theorem dX8_note_8 : decode cX8_note 8 = .ok (.aload_n 0, 1) := by decide +kernel
theorem dX8_note_9 : decode cX8_note 9 = .ok (.getfield 28, 3) := by decide +kernel
theorem dX8_note_12 : decode cX8_note 12 = .ok (.sipush 639, 3) := by decide +kernel
theorem dX8_note_15 : decode cX8_note 15 = .ok (.iaload, 1) := by decide +kernel
theorem dX8_note_16 : decode cX8_note 16 = .ok (.bipush 60, 2) := by decide +kernel
theorem dX8_note_18 : decode cX8_note 18 = .ok (.if_icmp .ne 56, 3) := by decide +kernel
theorem dX8_note_21 : decode cX8_note 21 = .ok (.iconst 3, 1) := by decide +kernel
theorem dX8_note_22 : decode cX8_note 22 = .ok (.istore 4, 2) := by decide +kernel
theorem dX8_note_24 : decode cX8_note 24 = .ok (.iload 4, 2) := by decide +kernel
theorem dX8_note_26 : decode cX8_note 26 = .ok (.sipush 180, 3) := by decide +kernel
theorem dX8_note_29 : decode cX8_note 29 = .ok (.if_icmp .ge 33, 3) := by decide +kernel
theorem dX8_note_32 : decode cX8_note 32 = .ok (.aload_n 0, 1) := by decide +kernel
theorem dX8_note_33 : decode cX8_note 33 = .ok (.getfield 28, 3) := by decide +kernel
theorem dX8_note_36 : decode cX8_note 36 = .ok (.sipush 640, 3) := by decide +kernel
theorem dX8_note_39 : decode cX8_note 39 = .ok (.iload 4, 2) := by decide +kernel
theorem dX8_note_41 : decode cX8_note 41 = .ok (.iadd, 1) := by decide +kernel
theorem dX8_note_42 : decode cX8_note 42 = .ok (.iconst 3, 1) := by decide +kernel
theorem dX8_note_43 : decode cX8_note 43 = .ok (.isub, 1) := by decide +kernel
theorem dX8_note_44 : decode cX8_note 44 = .ok (.aload_n 0, 1) := by decide +kernel
theorem dX8_note_45 : decode cX8_note 45 = .ok (.getfield 28, 3) := by decide +kernel
theorem dX8_note_48 : decode cX8_note 48 = .ok (.sipush 640, 3) := by decide +kernel
theorem dX8_note_51 : decode cX8_note 51 = .ok (.iload 4, 2) := by decide +kernel
theorem dX8_note_53 : decode cX8_note 53 = .ok (.iadd, 1) := by decide +kernel
theorem dX8_note_54 : decode cX8_note 54 = .ok (.iaload, 1) := by decide +kernel
theorem dX8_note_55 : decode cX8_note 55 = .ok (.iastore, 1) := by decide +kernel
theorem dX8_note_56 : decode cX8_note 56 = .ok (.iinc 4 1, 3) := by decide +kernel
theorem dX8_note_59 : decode cX8_note 59 = .ok (.goto (-35), 3) := by decide +kernel
theorem dX8_note_62 : decode cX8_note 62 = .ok (.aload_n 0, 1) := by decide +kernel
theorem dX8_note_63 : decode cX8_note 63 = .ok (.getfield 28, 3) := by decide +kernel
theorem dX8_note_66 : decode cX8_note 66 = .ok (.sipush 639, 3) := by decide +kernel
theorem dX8_note_69 : decode cX8_note 69 = .ok (.dup2, 1) := by decide +kernel
theorem dX8_note_70 : decode cX8_note 70 = .ok (.iaload, 1) := by decide +kernel
theorem dX8_note_71 : decode cX8_note 71 = .ok (.iconst 1, 1) := by decide +kernel
theorem dX8_note_72 : decode cX8_note 72 = .ok (.isub, 1) := by decide +kernel
theorem dX8_note_73 : decode cX8_note 73 = .ok (.iastore, 1) := by decide +kernel
theorem dX8_note_74 : decode cX8_note 74 = .ok (.sipush 640, 3) := by decide +kernel
theorem dX8_note_77 : decode cX8_note 77 = .ok (.iconst 3, 1) := by decide +kernel
theorem dX8_note_78 : decode cX8_note 78 = .ok (.aload_n 0, 1) := by decide +kernel
theorem dX8_note_79 : decode cX8_note 79 = .ok (.getfield 28, 3) := by decide +kernel
theorem dX8_note_82 : decode cX8_note 82 = .ok (.sipush 639, 3) := by decide +kernel
theorem dX8_note_85 : decode cX8_note 85 = .ok (.iaload, 1) := by decide +kernel
theorem dX8_note_86 : decode cX8_note 86 = .ok (.imul, 1) := by decide +kernel
theorem dX8_note_87 : decode cX8_note 87 = .ok (.iadd, 1) := by decide +kernel
theorem dX8_note_88 : decode cX8_note 88 = .ok (.istore 4, 2) := by decide +kernel
theorem dX8_note_90 : decode cX8_note 90 = .ok (.aload_n 0, 1) := by decide +kernel
theorem dX8_note_91 : decode cX8_note 91 = .ok (.getfield 28, 3) := by decide +kernel
theorem dX8_note_94 : decode cX8_note 94 = .ok (.iload 4, 2) := by decide +kernel
theorem dX8_note_96 : decode cX8_note 96 = .ok (.iload_n 1, 1) := by decide +kernel
theorem dX8_note_97 : decode cX8_note 97 = .ok (.iastore, 1) := by decide +kernel
theorem dX8_note_98 : decode cX8_note 98 = .ok (.aload_n 0, 1) := by decide +kernel
theorem dX8_note_99 : decode cX8_note 99 = .ok (.getfield 28, 3) := by decide +kernel
theorem dX8_note_102 : decode cX8_note 102 = .ok (.iload 4, 2) := by decide +kernel
theorem dX8_note_104 : decode cX8_note 104 = .ok (.iconst 1, 1) := by decide +kernel
theorem dX8_note_105 : decode cX8_note 105 = .ok (.iadd, 1) := by decide +kernel
theorem dX8_note_106 : decode cX8_note 106 = .ok (.iload_n 2, 1) := by decide +kernel
theorem dX8_note_107 : decode cX8_note 107 = .ok (.iastore, 1) := by decide +kernel
theorem dX8_note_108 : decode cX8_note 108 = .ok (.aload_n 0, 1) := by decide +kernel
theorem dX8_note_109 : decode cX8_note 109 = .ok (.getfield 28, 3) := by decide +kernel
theorem dX8_note_112 : decode cX8_note 112 = .ok (.iload 4, 2) := by decide +kernel
theorem dX8_note_114 : decode cX8_note 114 = .ok (.iconst 2, 1) := by decide +kernel
theorem dX8_note_115 : decode cX8_note 115 = .ok (.iadd, 1) := by decide +kernel
theorem dX8_note_116 : decode cX8_note 116 = .ok (.iload_n 3, 1) := by decide +kernel
theorem dX8_note_117 : decode cX8_note 117 = .ok (.iastore, 1) := by decide +kernel
theorem dX8_note_118 : decode cX8_note 118 = .ok (.aload_n 0, 1) := by decide +kernel
theorem dX8_note_119 : decode cX8_note 119 = .ok (.getfield 28, 3) := by decide +kernel
theorem dX8_note_122 : decode cX8_note 122 = .ok (.sipush 639, 3) := by decide +kernel
theorem dX8_note_125 : decode cX8_note 125 = .ok (.dup2, 1) := by decide +kernel
theorem dX8_note_126 : decode cX8_note 126 = .ok (.iaload, 1) := by decide +kernel
theorem dX8_note_127 : decode cX8_note 127 = .ok (.iconst 1, 1) := by decide +kernel
theorem dX8_note_128 : decode cX8_note 128 = .ok (.iadd, 1) := by decide +kernel
theorem dX8_note_129 : decode cX8_note 129 = .ok (.iastore, 1) := by decide +kernel
theorem dX8_note_130 : decode cX8_note 130 = .ok (.return_, 1) := by decide +kernel
def fM_note_24  (s2 : Int32 × mS) : Option ((Int32 × mS) ⊕ (mS)) :=
  if (iz 180) ≤ s2.1 then
    some (.inr s2.2)
  else
    (nx_rd (mlen 7) (s2.2.1 7) ((iz 640) + s2.1)).bind fun x3 =>
    (mWr s2.2 7 (((iz 640) + s2.1) - (iz 3)) x3).bind fun g4 =>
    some (.inl ((s2.1 + iz 1), g4))
def fM_note (u : Nat) (g : mS) (a1 : Int32) (a2 : Int32) (a3 : Int32) : Option (mS) :=
  if (g.1 0 15) = iz 0 then
    (nx_rd (mlen 7) (g.1 7) (iz 639)).bind fun x1 =>
    (if x1 = (iz 60) then
       (nx_iter u (fM_note_24) ((iz 3), g)).bind fun e5 =>
       (nx_rd (mlen 7) (e5.1 7) (iz 639)).bind fun x6 =>
       (mWr e5 7 (iz 639) (x6 - (iz 1))).bind fun g7 =>
       some g7
     else
       some g : Option (mS)).bind fun s8 =>
    (nx_rd (mlen 7) (s8.1 7) (iz 639)).bind fun x9 =>
    (mWr s8 7 ((iz 640) + ((iz 3) * x9)) a1).bind fun g10 =>
    (mWr g10 7 (((iz 640) + ((iz 3) * x9)) + (iz 1)) a2).bind fun g11 =>
    (mWr g11 7 (((iz 640) + ((iz 3) * x9)) + (iz 2)) a3).bind fun g12 =>
    (nx_rd (mlen 7) (g12.1 7) (iz 639)).bind fun x13 =>
    (mWr g12 7 (iz 639) (x13 + (iz 1))).bind fun g14 =>
    some g14
  else
    some g
set_option maxRecDepth 4000 in
theorem jM_note_24 {Γ : nx_G} {M0 : nx_M} {m : Nat} (a1 : Int32) (a2 : Int32) (a3 : Int32)   (X : nx_X) (Z : nx_Z) (s2 : Int32 × mS) : nx_J Γ X (RX8, cX8_note, 5, none, "note", 1) Z (Sum.elim (fun s2 : Int32 × mS => .inl (24, [some (.ref m), some (.int a1), some (.int a2), some (.int a3), some (.int s2.1)], [], (mW Γ M0 m s2.2))) (fun e5 : mS => .inl (62, [some (.ref m), some (.int a1), some (.int a2), some (.int a3), none], [], (mW Γ M0 m e5)))) (.inl (24, [some (.ref m), some (.int a1), some (.int a2), some (.int a3), some (.int s2.1)], [], (mW Γ M0 m s2.2))) (fM_note_24 s2) := by
  unfold fM_note_24
  refine nx_iload rfl dX8_note_24 rfl ?_
  refine nx_sipush (by decide +kernel) dX8_note_26 rfl ?_
  refine nx_icmp_ge (t := 62) dX8_note_29 (by decide) rfl ?_ ?_
  · refine nx_weak (ls' := [some (.ref m), some (.int a1), some (.int a2), some (.int a3), none]) (nx_wk_s (nx_wk_s (nx_wk_s (nx_wk_s (nx_wk_n nx_wk_e))))) ?_
    obtain ⟨_, _⟩ := s2
    exact nx_leaf rfl
  · refine nx_aload_n rfl dX8_note_32 rfl ?_
    refine nx_getf fl_8_28 mW_m rfl dX8_note_33 rfl ?_
    refine nx_sipush (by decide +kernel) dX8_note_36 rfl ?_
    refine nx_iload rfl dX8_note_39 rfl ?_
    refine nx_iadd dX8_note_41 rfl ?_
    refine nx_iconst dX8_note_42 rfl ?_
    refine nx_isub dX8_note_43 rfl ?_
    refine nx_aload_n rfl dX8_note_44 rfl ?_
    refine nx_getf fl_8_28 mW_m rfl dX8_note_45 rfl ?_
    refine nx_sipush (by decide +kernel) dX8_note_48 rfl ?_
    refine nx_iload rfl dX8_note_51 rfl ?_
    refine nx_iadd dX8_note_53 rfl ?_
    refine m_iald 7 ⟨Nat.le_of_ble_eq_true rfl, Nat.le_of_ble_eq_true rfl⟩ dX8_note_54 rfl (fun x3 => ?_)
    refine m_iast 7 ⟨Nat.le_of_ble_eq_true rfl, Nat.le_of_ble_eq_true rfl⟩ dX8_note_55 rfl (fun g4 => ?_)
    refine nx_iinc [some (.ref m), some (.int a1), some (.int a2), some (.int a3), some (.int (s2.1 + iz 1))] dX8_note_56 rfl rfl (Nat.le_of_ble_eq_true rfl) rfl rfl ?_
    refine nx_goto (q := 24) dX8_note_59 (by decide) ?_
    obtain ⟨_, _⟩ := s2
    exact nx_leaf rfl
set_option maxRecDepth 4000 in
theorem jM_note {Γ : nx_G} {M0 : nx_M} {m : Nat} (u : Nat) (g : mS) (a1 : Int32) (a2 : Int32) (a3 : Int32)   (X : nx_X) (Z : nx_Z) : nx_J Γ X (RX8, cX8_note, 5, none, "note", 1) Z (fun r0 : mS => .inr (none, (mW Γ M0 m r0))) (.inl (0, [some (.ref m), some (.int a1), some (.int a2), some (.int a3), none], [], (mW Γ M0 m g))) (fM_note u g a1 a2 a3) := by
  unfold fM_note
  refine nx_aload_n rfl dX8_note_0 rfl ?_
  refine nx_getf fl_8_168 mW_m rfl dX8_note_1 rfl ?_
  refine nx_if_eq (t := 8) dX8_note_4 (by decide) rfl ?_ ?_
  · refine nx_aload_n rfl dX8_note_8 rfl ?_
    refine nx_getf fl_8_28 mW_m rfl dX8_note_9 rfl ?_
    refine nx_sipush (by decide +kernel) dX8_note_12 rfl ?_
    refine m_iald 7 ⟨Nat.le_of_ble_eq_true rfl, Nat.le_of_ble_eq_true rfl⟩ dX8_note_15 rfl (fun x1 => ?_)
    refine nx_bipush (by decide +kernel) dX8_note_16 rfl ?_
    refine nx_seq (C1 := fun s8 : mS => .inl (74, [some (.ref m), some (.int a1), some (.int a2), some (.int a3), none], [], (mW Γ M0 m s8))) ?_ (fun s8 => ?_)
    · refine nx_icmp_ne (t := 74) dX8_note_18 (by decide) rfl ?_ ?_
      · exact nx_leaf rfl
      · refine nx_iconst dX8_note_21 rfl ?_
        refine nx_istore [some (.ref m), some (.int a1), some (.int a2), some (.int a3), some (.int (iz 3))] dX8_note_22 rfl (Nat.le_of_ble_eq_true rfl) rfl rfl ?_
        refine nx_seq (C1 := fun e5 : mS => .inl (62, [some (.ref m), some (.int a1), some (.int a2), some (.int a3), none], [], (mW Γ M0 m e5))) (nx_loop (C1 := fun s2 : Int32 × mS => .inl (24, [some (.ref m), some (.int a1), some (.int a2), some (.int a3), some (.int s2.1)], [], (mW Γ M0 m s2.2))) (fun s2 => jM_note_24  a1 a2 a3 X Z s2) ((iz 3), g)) (fun e5 => ?_)
        refine nx_aload_n rfl dX8_note_62 rfl ?_
        refine nx_getf fl_8_28 mW_m rfl dX8_note_63 rfl ?_
        refine nx_sipush (by decide +kernel) dX8_note_66 rfl ?_
        refine nx_dup2 rfl rfl dX8_note_69 rfl ?_
        refine m_iald 7 ⟨Nat.le_of_ble_eq_true rfl, Nat.le_of_ble_eq_true rfl⟩ dX8_note_70 rfl (fun x6 => ?_)
        refine nx_iconst dX8_note_71 rfl ?_
        refine nx_isub dX8_note_72 rfl ?_
        refine m_iast 7 ⟨Nat.le_of_ble_eq_true rfl, Nat.le_of_ble_eq_true rfl⟩ dX8_note_73 rfl (fun g7 => ?_)
        exact nx_leaf rfl
    refine nx_sipush (by decide +kernel) dX8_note_74 rfl ?_
    refine nx_iconst dX8_note_77 rfl ?_
    refine nx_aload_n rfl dX8_note_78 rfl ?_
    refine nx_getf fl_8_28 mW_m rfl dX8_note_79 rfl ?_
    refine nx_sipush (by decide +kernel) dX8_note_82 rfl ?_
    refine m_iald 7 ⟨Nat.le_of_ble_eq_true rfl, Nat.le_of_ble_eq_true rfl⟩ dX8_note_85 rfl (fun x9 => ?_)
    refine nx_imul dX8_note_86 rfl ?_
    refine nx_iadd dX8_note_87 rfl ?_
    refine nx_istore [some (.ref m), some (.int a1), some (.int a2), some (.int a3), some (.int ((iz 640) + ((iz 3) * x9)))] dX8_note_88 rfl (Nat.le_of_ble_eq_true rfl) rfl rfl ?_
    refine nx_aload_n rfl dX8_note_90 rfl ?_
    refine nx_getf fl_8_28 mW_m rfl dX8_note_91 rfl ?_
    refine nx_iload rfl dX8_note_94 rfl ?_
    refine nx_iload_n rfl dX8_note_96 rfl ?_
    refine m_iast 7 ⟨Nat.le_of_ble_eq_true rfl, Nat.le_of_ble_eq_true rfl⟩ dX8_note_97 rfl (fun g10 => ?_)
    refine nx_aload_n rfl dX8_note_98 rfl ?_
    refine nx_getf fl_8_28 mW_m rfl dX8_note_99 rfl ?_
    refine nx_iload rfl dX8_note_102 rfl ?_
    refine nx_iconst dX8_note_104 rfl ?_
    refine nx_iadd dX8_note_105 rfl ?_
    refine nx_iload_n rfl dX8_note_106 rfl ?_
    refine m_iast 7 ⟨Nat.le_of_ble_eq_true rfl, Nat.le_of_ble_eq_true rfl⟩ dX8_note_107 rfl (fun g11 => ?_)
    refine nx_aload_n rfl dX8_note_108 rfl ?_
    refine nx_getf fl_8_28 mW_m rfl dX8_note_109 rfl ?_
    refine nx_iload rfl dX8_note_112 rfl ?_
    refine nx_iconst dX8_note_114 rfl ?_
    refine nx_iadd dX8_note_115 rfl ?_
    refine nx_iload_n rfl dX8_note_116 rfl ?_
    refine m_iast 7 ⟨Nat.le_of_ble_eq_true rfl, Nat.le_of_ble_eq_true rfl⟩ dX8_note_117 rfl (fun g12 => ?_)
    refine nx_aload_n rfl dX8_note_118 rfl ?_
    refine nx_getf fl_8_28 mW_m rfl dX8_note_119 rfl ?_
    refine nx_sipush (by decide +kernel) dX8_note_122 rfl ?_
    refine nx_dup2 rfl rfl dX8_note_125 rfl ?_
    refine m_iald 7 ⟨Nat.le_of_ble_eq_true rfl, Nat.le_of_ble_eq_true rfl⟩ dX8_note_126 rfl (fun x13 => ?_)
    refine nx_iconst dX8_note_127 rfl ?_
    refine nx_iadd dX8_note_128 rfl ?_
    refine m_iast 7 ⟨Nat.le_of_ble_eq_true rfl, Nat.le_of_ble_eq_true rfl⟩ dX8_note_129 rfl (fun g14 => ?_)
    exact nx_vret dX8_note_130 rfl rfl
  · exact nx_vret dX8_note_7 rfl rfl
theorem cM_note (l : Launch) {Γ : nx_G} {M0 : nx_M} {m : Nat} {u : Nat} {g : mS} {a1 : Int32} {a2 : Int32} {a3 : Int32} {r : mS}  (h : fM_note u g a1 a2 a3 = some r) : nx_Ct l Γ 1 yX8_note cX8_note 5 none [.ref m, .int a1, .int a2, .int a3] (mW Γ M0 m g) (none, (mW Γ M0 m r)) :=
  nx_ct (out := fun r0 : mS => (none, (mW Γ M0 m r0))) [some (.ref m), some (.int a1), some (.int a2), some (.int a3), none] pn_RX8 h (Nat.le_of_ble_eq_true rfl) rfl (fun X Z _ => jM_note  u g a1 a2 a3 X Z)
theorem dX8_dropVersion_0 : decode cX8_dropVersion 0 = .ok (.iload_n 1, 1) := by decide +kernel
theorem dX8_dropVersion_1 : decode cX8_dropVersion 1 = .ok (.iload_n 2, 1) := by decide +kernel
theorem dX8_dropVersion_2 : decode cX8_dropVersion 2 = .ok (.iconst 1, 1) := by decide +kernel
theorem dX8_dropVersion_3 : decode cX8_dropVersion 3 = .ok (.invokestatic 138, 3) := by decide +kernel
theorem dX8_dropVersion_6 : decode cX8_dropVersion 6 = .ok (.istore_n 3, 1) := by decide +kernel
theorem dX8_dropVersion_7 : decode cX8_dropVersion 7 = .ok (.iload_n 3, 1) := by decide +kernel
theorem dX8_dropVersion_8 : decode cX8_dropVersion 8 = .ok (.iload_n 1, 1) := by decide +kernel
theorem dX8_dropVersion_9 : decode cX8_dropVersion 9 = .ok (.aload_n 0, 1) := by decide +kernel
theorem dX8_dropVersion_10 : decode cX8_dropVersion 10 = .ok (.iload_n 1, 1) := by decide +kernel
theorem dX8_dropVersion_11 : decode cX8_dropVersion 11 = .ok (.invokevirtual 171, 3) := by decide +kernel
theorem dX8_dropVersion_14 : decode cX8_dropVersion 14 = .ok (.iconst 1, 1) := by decide +kernel
theorem dX8_dropVersion_15 : decode cX8_dropVersion 15 = .ok (.isub, 1) := by decide +kernel
theorem dX8_dropVersion_16 : decode cX8_dropVersion 16 = .ok (.iconst 1, 1) := by decide +kernel
theorem dX8_dropVersion_17 : decode cX8_dropVersion 17 = .ok (.invokestatic 138, 3) := by decide +kernel
theorem dX8_dropVersion_20 : decode cX8_dropVersion 20 = .ok (.if_icmp .ge 23, 3) := by decide +kernel
theorem dX8_dropVersion_23 : decode cX8_dropVersion 23 = .ok (.aload_n 0, 1) := by decide +kernel
theorem dX8_dropVersion_24 : decode cX8_dropVersion 24 = .ok (.getfield 28, 3) := by decide +kernel
theorem dX8_dropVersion_27 : decode cX8_dropVersion 27 = .ok (.iload_n 3, 1) := by decide +kernel
theorem dX8_dropVersion_28 : decode cX8_dropVersion 28 = .ok (.aload_n 0, 1) := by decide +kernel
theorem dX8_dropVersion_29 : decode cX8_dropVersion 29 = .ok (.getfield 28, 3) := by decide +kernel
theorem dX8_dropVersion_32 : decode cX8_dropVersion 32 = .ok (.iload_n 3, 1) := by decide +kernel
theorem dX8_dropVersion_33 : decode cX8_dropVersion 33 = .ok (.iconst 4, 1) := by decide +kernel
theorem dX8_dropVersion_34 : decode cX8_dropVersion 34 = .ok (.iadd, 1) := by decide +kernel
theorem dX8_dropVersion_35 : decode cX8_dropVersion 35 = .ok (.iaload, 1) := by decide +kernel
theorem dX8_dropVersion_36 : decode cX8_dropVersion 36 = .ok (.iastore, 1) := by decide +kernel
theorem dX8_dropVersion_37 : decode cX8_dropVersion 37 = .ok (.iinc 3 1, 3) := by decide +kernel
theorem dX8_dropVersion_40 : decode cX8_dropVersion 40 = .ok (.goto (-33), 3) := by decide +kernel
theorem dX8_dropVersion_43 : decode cX8_dropVersion 43 = .ok (.aload_n 0, 1) := by decide +kernel
theorem dX8_dropVersion_44 : decode cX8_dropVersion 44 = .ok (.getfield 28, 3) := by decide +kernel
theorem dX8_dropVersion_47 : decode cX8_dropVersion 47 = .ok (.iload_n 1, 1) := by decide +kernel
theorem dX8_dropVersion_48 : decode cX8_dropVersion 48 = .ok (.invokestatic 135, 3) := by decide +kernel
theorem dX8_dropVersion_51 : decode cX8_dropVersion 51 = .ok (.dup2, 1) := by decide +kernel
theorem dX8_dropVersion_52 : decode cX8_dropVersion 52 = .ok (.iaload, 1) := by decide +kernel
theorem dX8_dropVersion_53 : decode cX8_dropVersion 53 = .ok (.iconst 1, 1) := by decide +kernel
theorem dX8_dropVersion_54 : decode cX8_dropVersion 54 = .ok (.isub, 1) := by decide +kernel
theorem dX8_dropVersion_55 : decode cX8_dropVersion 55 = .ok (.iastore, 1) := by decide +kernel
theorem dX8_dropVersion_56 : decode cX8_dropVersion 56 = .ok (.return_, 1) := by decide +kernel
def fM_dropVersion_7 (u : Nat) (a1 : Int32) (s2 : Int32 × mS) : Option ((Int32 × mS) ⊕ (mS)) :=
  (fM_many u s2.2 a1).bind fun x3 =>
  (fM_cell u a1 (x3 - (iz 1)) (iz 1)).bind fun x4 =>
  if x4 ≤ s2.1 then
    some (.inr s2.2)
  else
    (nx_rd (mlen 7) (s2.2.1 7) (s2.1 + (iz 4))).bind fun x5 =>
    (mWr s2.2 7 s2.1 x5).bind fun g6 =>
    some (.inl ((s2.1 + iz 1), g6))
def fM_dropVersion (u : Nat) (g : mS) (a1 : Int32) (a2 : Int32) : Option (mS) :=
  (fM_cell u a1 a2 (iz 1)).bind fun x1 =>
  (nx_iter u (fM_dropVersion_7 u a1) (x1, g)).bind fun e7 =>
  (fM_keyAt u a1).bind fun x8 =>
  (nx_rd (mlen 7) (e7.1 7) x8).bind fun x9 =>
  (mWr e7 7 x8 (x9 - (iz 1))).bind fun g10 =>
  some g10
set_option maxRecDepth 4000 in
theorem jM_dropVersion_7 {Γ : nx_G} {M0 : nx_M} {m : Nat} (u : Nat) (a1 : Int32) (a2 : Int32)   (X : nx_X) (Z : nx_Z) (s2 : Int32 × mS) : nx_J Γ X (RX8, cX8_dropVersion, 4, none, "dropVersion", 3) Z (Sum.elim (fun s2 : Int32 × mS => .inl (7, [some (.ref m), some (.int a1), some (.int a2), some (.int s2.1)], [], (mW Γ M0 m s2.2))) (fun e7 : mS => .inl (43, [some (.ref m), some (.int a1), some (.int a2), none], [], (mW Γ M0 m e7)))) (.inl (7, [some (.ref m), some (.int a1), some (.int a2), some (.int s2.1)], [], (mW Γ M0 m s2.2))) (fM_dropVersion_7 u a1 s2) := by
  unfold fM_dropVersion_7
  refine nx_iload_n rfl dX8_dropVersion_7 rfl ?_
  refine nx_iload_n rfl dX8_dropVersion_8 rfl ?_
  refine nx_aload_n rfl dX8_dropVersion_9 rfl ?_
  refine nx_iload_n rfl dX8_dropVersion_10 rfl ?_
  refine nx_callVr [.int a1] (fun r => .int r) (fun _ => (mW Γ M0 m s2.2)) cw_8_171 cv_X8_many (fun r e => cM_many X.2.1  e) mW_m rfl rfl (Nat.le_of_ble_eq_true rfl) (Nat.le_of_ble_eq_true rfl) dX8_dropVersion_11 rfl (fun x3 => ?_)
  refine nx_iconst dX8_dropVersion_14 rfl ?_
  refine nx_isub dX8_dropVersion_15 rfl ?_
  refine nx_iconst dX8_dropVersion_16 rfl ?_
  refine nx_callSr [.int a1, .int (x3 - (iz 1)), .int (iz 1)] (fun r => .int r) (fun _ => (mW Γ M0 m s2.2)) cw_8_138 wd_1321 (fun r e => cM_cell X.2.1  e) rfl rfl (Nat.le_of_ble_eq_true rfl) (Nat.le_of_ble_eq_true rfl) dX8_dropVersion_17 rfl (fun x4 => ?_)
  refine nx_icmp_ge (t := 43) dX8_dropVersion_20 (by decide) rfl ?_ ?_
  · refine nx_weak (ls' := [some (.ref m), some (.int a1), some (.int a2), none]) (nx_wk_s (nx_wk_s (nx_wk_s (nx_wk_n nx_wk_e)))) ?_
    obtain ⟨_, _⟩ := s2
    exact nx_leaf rfl
  · refine nx_aload_n rfl dX8_dropVersion_23 rfl ?_
    refine nx_getf fl_8_28 mW_m rfl dX8_dropVersion_24 rfl ?_
    refine nx_iload_n rfl dX8_dropVersion_27 rfl ?_
    refine nx_aload_n rfl dX8_dropVersion_28 rfl ?_
    refine nx_getf fl_8_28 mW_m rfl dX8_dropVersion_29 rfl ?_
    refine nx_iload_n rfl dX8_dropVersion_32 rfl ?_
    refine nx_iconst dX8_dropVersion_33 rfl ?_
    refine nx_iadd dX8_dropVersion_34 rfl ?_
    refine m_iald 7 ⟨Nat.le_of_ble_eq_true rfl, Nat.le_of_ble_eq_true rfl⟩ dX8_dropVersion_35 rfl (fun x5 => ?_)
    refine m_iast 7 ⟨Nat.le_of_ble_eq_true rfl, Nat.le_of_ble_eq_true rfl⟩ dX8_dropVersion_36 rfl (fun g6 => ?_)
    refine nx_iinc [some (.ref m), some (.int a1), some (.int a2), some (.int (s2.1 + iz 1))] dX8_dropVersion_37 rfl rfl (Nat.le_of_ble_eq_true rfl) rfl rfl ?_
    refine nx_goto (q := 7) dX8_dropVersion_40 (by decide) ?_
    obtain ⟨_, _⟩ := s2
    exact nx_leaf rfl
set_option maxRecDepth 4000 in
theorem jM_dropVersion {Γ : nx_G} {M0 : nx_M} {m : Nat} (u : Nat) (g : mS) (a1 : Int32) (a2 : Int32)   (X : nx_X) (Z : nx_Z) : nx_J Γ X (RX8, cX8_dropVersion, 4, none, "dropVersion", 3) Z (fun r0 : mS => .inr (none, (mW Γ M0 m r0))) (.inl (0, [some (.ref m), some (.int a1), some (.int a2), none], [], (mW Γ M0 m g))) (fM_dropVersion u g a1 a2) := by
  unfold fM_dropVersion
  refine nx_iload_n rfl dX8_dropVersion_0 rfl ?_
  refine nx_iload_n rfl dX8_dropVersion_1 rfl ?_
  refine nx_iconst dX8_dropVersion_2 rfl ?_
  refine nx_callSr [.int a1, .int a2, .int (iz 1)] (fun r => .int r) (fun _ => (mW Γ M0 m g)) cw_8_138 wd_1321 (fun r e => cM_cell X.2.1  e) rfl rfl (Nat.le_of_ble_eq_true rfl) (Nat.le_of_ble_eq_true rfl) dX8_dropVersion_3 rfl (fun x1 => ?_)
  refine nx_istore_n [some (.ref m), some (.int a1), some (.int a2), some (.int x1)] dX8_dropVersion_6 rfl (Nat.le_of_ble_eq_true rfl) rfl rfl ?_
  refine nx_seq (C1 := fun e7 : mS => .inl (43, [some (.ref m), some (.int a1), some (.int a2), none], [], (mW Γ M0 m e7))) (nx_loop (C1 := fun s2 : Int32 × mS => .inl (7, [some (.ref m), some (.int a1), some (.int a2), some (.int s2.1)], [], (mW Γ M0 m s2.2))) (fun s2 => jM_dropVersion_7  u a1 a2 X Z s2) (x1, g)) (fun e7 => ?_)
  refine nx_aload_n rfl dX8_dropVersion_43 rfl ?_
  refine nx_getf fl_8_28 mW_m rfl dX8_dropVersion_44 rfl ?_
  refine nx_iload_n rfl dX8_dropVersion_47 rfl ?_
  refine nx_callSr [.int a1] (fun r => .int r) (fun _ => (mW Γ M0 m e7)) cw_8_135 wd_1318 (fun r e => cM_keyAt X.2.1  e) rfl rfl (Nat.le_of_ble_eq_true rfl) (Nat.le_of_ble_eq_true rfl) dX8_dropVersion_48 rfl (fun x8 => ?_)
  refine nx_dup2 rfl rfl dX8_dropVersion_51 rfl ?_
  refine m_iald 7 ⟨Nat.le_of_ble_eq_true rfl, Nat.le_of_ble_eq_true rfl⟩ dX8_dropVersion_52 rfl (fun x9 => ?_)
  refine nx_iconst dX8_dropVersion_53 rfl ?_
  refine nx_isub dX8_dropVersion_54 rfl ?_
  refine m_iast 7 ⟨Nat.le_of_ble_eq_true rfl, Nat.le_of_ble_eq_true rfl⟩ dX8_dropVersion_55 rfl (fun g10 => ?_)
  exact nx_vret dX8_dropVersion_56 rfl rfl
theorem cM_dropVersion (l : Launch) {Γ : nx_G} {M0 : nx_M} {m : Nat} {u : Nat} {g : mS} {a1 : Int32} {a2 : Int32} {r : mS}  (h : fM_dropVersion u g a1 a2 = some r) : nx_Ct l Γ 3 yX8_dropVersion cX8_dropVersion 4 none [.ref m, .int a1, .int a2] (mW Γ M0 m g) (none, (mW Γ M0 m r)) :=
  nx_ct (out := fun r0 : mS => (none, (mW Γ M0 m r0))) [some (.ref m), some (.int a1), some (.int a2), none] pn_RX8 h (Nat.le_of_ble_eq_true rfl) rfl (fun X Z _ => jM_dropVersion  u g a1 a2 X Z)
theorem dX8_placeOf_0 : decode cX8_placeOf 0 = .ok (.iconst 0, 1) := by decide +kernel
theorem dX8_placeOf_1 : decode cX8_placeOf 1 = .ok (.istore_n 3, 1) := by decide +kernel
theorem dX8_placeOf_2 : decode cX8_placeOf 2 = .ok (.iload_n 3, 1) := by decide +kernel
theorem dX8_placeOf_3 : decode cX8_placeOf 3 = .ok (.aload_n 0, 1) := by decide +kernel
theorem dX8_placeOf_4 : decode cX8_placeOf 4 = .ok (.iload_n 1, 1) := by decide +kernel
theorem dX8_placeOf_5 : decode cX8_placeOf 5 = .ok (.invokevirtual 171, 3) := by decide +kernel
theorem dX8_placeOf_8 : decode cX8_placeOf 8 = .ok (.if_icmp .ge 22, 3) := by decide +kernel
theorem dX8_placeOf_11 : decode cX8_placeOf 11 = .ok (.aload_n 0, 1) := by decide +kernel
theorem dX8_placeOf_12 : decode cX8_placeOf 12 = .ok (.iload_n 1, 1) := by decide +kernel
theorem dX8_placeOf_13 : decode cX8_placeOf 13 = .ok (.iload_n 3, 1) := by decide +kernel
theorem dX8_placeOf_14 : decode cX8_placeOf 14 = .ok (.iconst 1, 1) := by decide +kernel
theorem dX8_placeOf_15 : decode cX8_placeOf 15 = .ok (.invokevirtual 174, 3) := by decide +kernel
theorem dX8_placeOf_18 : decode cX8_placeOf 18 = .ok (.iload_n 2, 1) := by decide +kernel
theorem dX8_placeOf_19 : decode cX8_placeOf 19 = .ok (.if_icmp .ne 5, 3) := by decide +kernel
theorem dX8_placeOf_22 : decode cX8_placeOf 22 = .ok (.iload_n 3, 1) := by decide +kernel
theorem dX8_placeOf_23 : decode cX8_placeOf 23 = .ok (.ireturn, 1) := by decide +kernel
theorem dX8_placeOf_24 : decode cX8_placeOf 24 = .ok (.iinc 3 1, 3) := by decide +kernel
theorem dX8_placeOf_27 : decode cX8_placeOf 27 = .ok (.goto (-25), 3) := by decide +kernel
theorem dX8_placeOf_30 : decode cX8_placeOf 30 = .ok (.iconst (-1), 1) := by decide +kernel
theorem dX8_placeOf_31 : decode cX8_placeOf 31 = .ok (.ireturn, 1) := by decide +kernel
def fM_placeOf_2 (u : Nat) (g : mS) (a1 : Int32) (a2 : Int32) (s1 : Int32) : Option ((Int32) ⊕ ((Unit) ⊕ (Int32))) :=
  (fM_many u g a1).bind fun x2 =>
  if x2 ≤ s1 then
    some (.inr (.inl ()))
  else
    (fM_its u g a1 s1 (iz 1)).bind fun x3 =>
    if x3 = a2 then
      some (.inr (.inr s1))
    else
      some (.inl (s1 + iz 1))
def fM_placeOf (u : Nat) (g : mS) (a1 : Int32) (a2 : Int32) : Option (Int32) :=
  (nx_iter u (fM_placeOf_2 u g a1 a2) (iz 0)).bind (Sum.elim (fun e4 =>
    some (iz (-1)))
    (fun r0 => some r0))
set_option maxRecDepth 4000 in
theorem jM_placeOf_2 {Γ : nx_G} {M0 : nx_M} {m : Nat} (u : Nat) (g : mS) (a1 : Int32) (a2 : Int32)   (X : nx_X) (Z : nx_Z) (s1 : Int32) : nx_J Γ X (RX8, cX8_placeOf, 4, (some .int), "placeOf", 3) Z (Sum.elim (fun s1 : Int32 => .inl (2, [some (.ref m), some (.int a1), some (.int a2), some (.int s1)], [], (mW Γ M0 m g))) (Sum.elim (fun e4 : Unit => .inl (30, [some (.ref m), some (.int a1), some (.int a2), none], [], (mW Γ M0 m g))) (fun r0 : Int32 => .inr (some (.int r0), (mW Γ M0 m g))))) (.inl (2, [some (.ref m), some (.int a1), some (.int a2), some (.int s1)], [], (mW Γ M0 m g))) (fM_placeOf_2 u g a1 a2 s1) := by
  unfold fM_placeOf_2
  refine nx_iload_n rfl dX8_placeOf_2 rfl ?_
  refine nx_aload_n rfl dX8_placeOf_3 rfl ?_
  refine nx_iload_n rfl dX8_placeOf_4 rfl ?_
  refine nx_callVr [.int a1] (fun r => .int r) (fun _ => (mW Γ M0 m g)) cw_8_171 cv_X8_many (fun r e => cM_many X.2.1  e) mW_m rfl rfl (Nat.le_of_ble_eq_true rfl) (Nat.le_of_ble_eq_true rfl) dX8_placeOf_5 rfl (fun x2 => ?_)
  refine nx_icmp_ge (t := 30) dX8_placeOf_8 (by decide) rfl ?_ ?_
  · refine nx_weak (ls' := [some (.ref m), some (.int a1), some (.int a2), none]) (nx_wk_s (nx_wk_s (nx_wk_s (nx_wk_n nx_wk_e)))) ?_
    exact nx_leaf rfl
  · refine nx_aload_n rfl dX8_placeOf_11 rfl ?_
    refine nx_iload_n rfl dX8_placeOf_12 rfl ?_
    refine nx_iload_n rfl dX8_placeOf_13 rfl ?_
    refine nx_iconst dX8_placeOf_14 rfl ?_
    refine nx_callVr [.int a1, .int s1, .int (iz 1)] (fun r => .int r) (fun _ => (mW Γ M0 m g)) cw_8_174 cv_X8_its (fun r e => cM_its X.2.1  e) mW_m rfl rfl (Nat.le_of_ble_eq_true rfl) (Nat.le_of_ble_eq_true rfl) dX8_placeOf_15 rfl (fun x3 => ?_)
    refine nx_iload_n rfl dX8_placeOf_18 rfl ?_
    refine nx_icmp_ne (t := 24) dX8_placeOf_19 (by decide) rfl ?_ ?_
    · refine nx_iinc [some (.ref m), some (.int a1), some (.int a2), some (.int (s1 + iz 1))] dX8_placeOf_24 rfl rfl (Nat.le_of_ble_eq_true rfl) rfl rfl ?_
      refine nx_goto (q := 2) dX8_placeOf_27 (by decide) ?_
      exact nx_leaf rfl
    · refine nx_iload_n rfl dX8_placeOf_22 rfl ?_
      exact nx_iret dX8_placeOf_23 rfl rfl
set_option maxRecDepth 4000 in
theorem jM_placeOf {Γ : nx_G} {M0 : nx_M} {m : Nat} (u : Nat) (g : mS) (a1 : Int32) (a2 : Int32)   (X : nx_X) (Z : nx_Z) : nx_J Γ X (RX8, cX8_placeOf, 4, (some .int), "placeOf", 3) Z (fun r0 : Int32 => .inr (some (.int r0), (mW Γ M0 m g))) (.inl (0, [some (.ref m), some (.int a1), some (.int a2), none], [], (mW Γ M0 m g))) (fM_placeOf u g a1 a2) := by
  unfold fM_placeOf
  refine nx_iconst dX8_placeOf_0 rfl ?_
  refine nx_istore_n [some (.ref m), some (.int a1), some (.int a2), some (.int (iz 0))] dX8_placeOf_1 rfl (Nat.le_of_ble_eq_true rfl) rfl rfl ?_
  refine nx_seqS (Ca := fun e4 : Unit => .inl (30, [some (.ref m), some (.int a1), some (.int a2), none], [], (mW Γ M0 m g))) (Cb := fun r0 : Int32 => .inr (some (.int r0), (mW Γ M0 m g))) (nx_loop (C1 := fun s1 : Int32 => .inl (2, [some (.ref m), some (.int a1), some (.int a2), some (.int s1)], [], (mW Γ M0 m g))) (fun s1 => jM_placeOf_2  u g a1 a2 X Z s1) (iz 0)) (fun e4 => ?_) (fun r0 => ?_)
  · refine nx_iconst dX8_placeOf_30 rfl ?_
    exact nx_iret dX8_placeOf_31 rfl rfl
  · exact nx_leaf rfl
theorem cM_placeOf (l : Launch) {Γ : nx_G} {M0 : nx_M} {m : Nat} {u : Nat} {g : mS} {a1 : Int32} {a2 : Int32} {r : Int32}  (h : fM_placeOf u g a1 a2 = some r) : nx_Ct l Γ 3 yX8_placeOf cX8_placeOf 4 (some .int) [.ref m, .int a1, .int a2] (mW Γ M0 m g) (some (.int r), (mW Γ M0 m g)) :=
  nx_ct (out := fun r0 : Int32 => (some (.int r0), (mW Γ M0 m g))) [some (.ref m), some (.int a1), some (.int a2), none] pn_RX8 h (Nat.le_of_ble_eq_true rfl) rfl (fun X Z _ => jM_placeOf  u g a1 a2 X Z)
theorem dX8_readable_0 : decode cX8_readable 0 = .ok (.aload_n 0, 1) := by decide +kernel
theorem dX8_readable_1 : decode cX8_readable 1 = .ok (.iload_n 2, 1) := by decide +kernel
theorem dX8_readable_2 : decode cX8_readable 2 = .ok (.aload_n 0, 1) := by decide +kernel
theorem dX8_readable_3 : decode cX8_readable 3 = .ok (.iload_n 1, 1) := by decide +kernel
theorem dX8_readable_4 : decode cX8_readable 4 = .ok (.iconst 1, 1) := by decide +kernel
theorem dX8_readable_5 : decode cX8_readable 5 = .ok (.invokevirtual 165, 3) := by decide +kernel
theorem dX8_readable_8 : decode cX8_readable 8 = .ok (.invokevirtual 177, 3) := by decide +kernel
theorem dX8_readable_11 : decode cX8_readable 11 = .ok (.istore_n 3, 1) := by decide +kernel
theorem dX8_readable_12 : decode cX8_readable 12 = .ok (.aload_n 0, 1) := by decide +kernel
theorem dX8_readable_13 : decode cX8_readable 13 = .ok (.iload_n 2, 1) := by decide +kernel
theorem dX8_readable_14 : decode cX8_readable 14 = .ok (.invokevirtual 171, 3) := by decide +kernel
theorem dX8_readable_17 : decode cX8_readable 17 = .ok (.iconst 1, 1) := by decide +kernel
theorem dX8_readable_18 : decode cX8_readable 18 = .ok (.isub, 1) := by decide +kernel
theorem dX8_readable_19 : decode cX8_readable 19 = .ok (.istore 4, 2) := by decide +kernel
theorem dX8_readable_21 : decode cX8_readable 21 = .ok (.iload 4, 2) := by decide +kernel
theorem dX8_readable_23 : decode cX8_readable 23 = .ok (.ifCond .lt 72, 3) := by decide +kernel
theorem dX8_readable_26 : decode cX8_readable 26 = .ok (.iload_n 3, 1) := by decide +kernel
theorem dX8_readable_27 : decode cX8_readable 27 = .ok (.iconst (-1), 1) := by decide +kernel
theorem dX8_readable_28 : decode cX8_readable 28 = .ok (.if_icmp .ne 67, 3) := by decide +kernel
theorem dX8_readable_31 : decode cX8_readable 31 = .ok (.aload_n 0, 1) := by decide +kernel
theorem dX8_readable_32 : decode cX8_readable 32 = .ok (.iload_n 2, 1) := by decide +kernel
theorem dX8_readable_33 : decode cX8_readable 33 = .ok (.iload 4, 2) := by decide +kernel
theorem dX8_readable_35 : decode cX8_readable 35 = .ok (.iconst 1, 1) := by decide +kernel
theorem dX8_readable_36 : decode cX8_readable 36 = .ok (.invokevirtual 174, 3) := by decide +kernel
theorem dX8_readable_39 : decode cX8_readable 39 = .ok (.aload_n 0, 1) := by decide +kernel
theorem dX8_readable_40 : decode cX8_readable 40 = .ok (.iload_n 1, 1) := by decide +kernel
theorem dX8_readable_41 : decode cX8_readable 41 = .ok (.iconst 1, 1) := by decide +kernel
theorem dX8_readable_42 : decode cX8_readable 42 = .ok (.invokevirtual 165, 3) := by decide +kernel
theorem dX8_readable_45 : decode cX8_readable 45 = .ok (.if_icmp .gt 29, 3) := by decide +kernel
theorem dX8_readable_48 : decode cX8_readable 48 = .ok (.aload_n 0, 1) := by decide +kernel
theorem dX8_readable_49 : decode cX8_readable 49 = .ok (.iload_n 1, 1) := by decide +kernel
theorem dX8_readable_50 : decode cX8_readable 50 = .ok (.iconst 2, 1) := by decide +kernel
theorem dX8_readable_51 : decode cX8_readable 51 = .ok (.invokevirtual 165, 3) := by decide +kernel
theorem dX8_readable_54 : decode cX8_readable 54 = .ok (.iconst 1, 1) := by decide +kernel
theorem dX8_readable_55 : decode cX8_readable 55 = .ok (.if_icmp .eq 15, 3) := by decide +kernel
theorem dX8_readable_58 : decode cX8_readable 58 = .ok (.aload_n 0, 1) := by decide +kernel
theorem dX8_readable_59 : decode cX8_readable 59 = .ok (.iload_n 2, 1) := by decide +kernel
theorem dX8_readable_60 : decode cX8_readable 60 = .ok (.iload 4, 2) := by decide +kernel
theorem dX8_readable_62 : decode cX8_readable 62 = .ok (.iconst 4, 1) := by decide +kernel
theorem dX8_readable_63 : decode cX8_readable 63 = .ok (.invokevirtual 174, 3) := by decide +kernel
theorem dX8_readable_66 : decode cX8_readable 66 = .ok (.iconst (-1), 1) := by decide +kernel
theorem dX8_readable_67 : decode cX8_readable 67 = .ok (.if_icmp .ne 7, 3) := by decide +kernel
theorem dX8_readable_70 : decode cX8_readable 70 = .ok (.iconst 1, 1) := by decide +kernel
theorem dX8_readable_71 : decode cX8_readable 71 = .ok (.goto 4, 3) := by decide +kernel
theorem dX8_readable_74 : decode cX8_readable 74 = .ok (.iconst 0, 1) := by decide +kernel
theorem dX8_readable_75 : decode cX8_readable 75 = .ok (.istore 5, 2) := by decide +kernel
theorem dX8_readable_77 : decode cX8_readable 77 = .ok (.iload 5, 2) := by decide +kernel
theorem dX8_readable_79 : decode cX8_readable 79 = .ok (.ifCond .eq 8, 3) := by decide +kernel
theorem dX8_readable_82 : decode cX8_readable 82 = .ok (.iload 4, 2) := by decide +kernel
theorem dX8_readable_84 : decode cX8_readable 84 = .ok (.goto 4, 3) := by decide +kernel
theorem dX8_readable_87 : decode cX8_readable 87 = .ok (.iconst (-1), 1) := by decide +kernel
theorem dX8_readable_88 : decode cX8_readable 88 = .ok (.istore_n 3, 1) := by decide +kernel
theorem dX8_readable_89 : decode cX8_readable 89 = .ok (.iinc 4 (-1), 3) := by decide +kernel
theorem dX8_readable_92 : decode cX8_readable 92 = .ok (.goto (-71), 3) := by decide +kernel
theorem dX8_readable_95 : decode cX8_readable 95 = .ok (.iload_n 3, 1) := by decide +kernel
theorem dX8_readable_96 : decode cX8_readable 96 = .ok (.ireturn, 1) := by decide +kernel
def fM_readable_21 (u : Nat) (g : mS) (a1 : Int32) (a2 : Int32) (s4 : Int32 × Int32) : Option ((Int32 × Int32) ⊕ (Int32)) :=
  if s4.2 < iz 0 then
    some (.inr s4.1)
  else
    if s4.1 = (iz (-1)) then
      (fM_its u g a2 s4.2 (iz 1)).bind fun x5 =>
      (fM_of u g a1 (iz 1)).bind fun x6 =>
      (if x6 < x5 then
         some (iz 0)
       else
         (fM_of u g a1 (iz 2)).bind fun x7 =>
         if x7 = (iz 1) then
           some (iz 1)
         else
           (fM_its u g a2 s4.2 (iz 4)).bind fun x8 =>
           if x8 = (iz (-1)) then
             some (iz 1)
           else
             some (iz 0) : Option (Int32)).bind fun s9 =>
      (if s9 = iz 0 then
         some (iz (-1))
       else
         some s4.2 : Option (Int32)).bind fun s10 =>
      some (.inl (s10, (s4.2 + iz (-1))))
    else
      some (.inr s4.1)
def fM_readable (u : Nat) (g : mS) (a1 : Int32) (a2 : Int32) : Option (Int32) :=
  (fM_of u g a1 (iz 1)).bind fun x1 =>
  (fM_placeOf u g a2 x1).bind fun x2 =>
  (fM_many u g a2).bind fun x3 =>
  (nx_iter u (fM_readable_21 u g a1 a2) (x2, (x3 - (iz 1)))).bind fun e11 =>
  some e11
set_option maxRecDepth 4000 in
theorem jM_readable_21 {Γ : nx_G} {M0 : nx_M} {m : Nat} (u : Nat) (g : mS) (a1 : Int32) (a2 : Int32)   (X : nx_X) (Z : nx_Z) (s4 : Int32 × Int32) : nx_J Γ X (RX8, cX8_readable, 6, (some .int), "readable", 4) Z (Sum.elim (fun s4 : Int32 × Int32 => .inl (21, [some (.ref m), some (.int a1), some (.int a2), some (.int s4.1), some (.int s4.2), none], [], (mW Γ M0 m g))) (fun e11 : Int32 => .inl (95, [some (.ref m), some (.int a1), some (.int a2), some (.int e11), none, none], [], (mW Γ M0 m g)))) (.inl (21, [some (.ref m), some (.int a1), some (.int a2), some (.int s4.1), some (.int s4.2), none], [], (mW Γ M0 m g))) (fM_readable_21 u g a1 a2 s4) := by
  unfold fM_readable_21
  refine nx_iload rfl dX8_readable_21 rfl ?_
  refine nx_if_lt (t := 95) dX8_readable_23 (by decide) rfl ?_ ?_
  · refine nx_weak (ls' := [some (.ref m), some (.int a1), some (.int a2), some (.int s4.1), none, none]) (nx_wk_s (nx_wk_s (nx_wk_s (nx_wk_s (nx_wk_n (nx_wk_n nx_wk_e)))))) ?_
    obtain ⟨_, _⟩ := s4
    exact nx_leaf rfl
  · refine nx_iload_n rfl dX8_readable_26 rfl ?_
    refine nx_iconst dX8_readable_27 rfl ?_
    refine nx_icmp_ne (t := 95) dX8_readable_28 (by decide) rfl ?_ ?_
    · refine nx_weak (ls' := [some (.ref m), some (.int a1), some (.int a2), some (.int s4.1), none, none]) (nx_wk_s (nx_wk_s (nx_wk_s (nx_wk_s (nx_wk_n (nx_wk_n nx_wk_e)))))) ?_
      obtain ⟨_, _⟩ := s4
      exact nx_leaf rfl
    · refine nx_aload_n rfl dX8_readable_31 rfl ?_
      refine nx_iload_n rfl dX8_readable_32 rfl ?_
      refine nx_iload rfl dX8_readable_33 rfl ?_
      refine nx_iconst dX8_readable_35 rfl ?_
      refine nx_callVr [.int a2, .int s4.2, .int (iz 1)] (fun r => .int r) (fun _ => (mW Γ M0 m g)) cw_8_174 cv_X8_its (fun r e => cM_its X.2.1  e) mW_m rfl rfl (Nat.le_of_ble_eq_true rfl) (Nat.le_of_ble_eq_true rfl) dX8_readable_36 rfl (fun x5 => ?_)
      refine nx_aload_n rfl dX8_readable_39 rfl ?_
      refine nx_iload_n rfl dX8_readable_40 rfl ?_
      refine nx_iconst dX8_readable_41 rfl ?_
      refine nx_callVr [.int a1, .int (iz 1)] (fun r => .int r) (fun _ => (mW Γ M0 m g)) cw_8_165 cv_X8_of (fun r e => cM_of X.2.1  e) mW_m rfl rfl (Nat.le_of_ble_eq_true rfl) (Nat.le_of_ble_eq_true rfl) dX8_readable_42 rfl (fun x6 => ?_)
      refine nx_seq (C1 := fun s9 : Int32 => .inl (75, [some (.ref m), some (.int a1), some (.int a2), some (.int s4.1), some (.int s4.2), none], [.int s9], (mW Γ M0 m g))) ?_ (fun s9 => ?_)
      · refine nx_icmp_gt (t := 74) dX8_readable_45 (by decide) rfl ?_ ?_
        · refine nx_iconst dX8_readable_74 rfl ?_
          obtain ⟨_, _⟩ := s4
          exact nx_leaf rfl
        · refine nx_aload_n rfl dX8_readable_48 rfl ?_
          refine nx_iload_n rfl dX8_readable_49 rfl ?_
          refine nx_iconst dX8_readable_50 rfl ?_
          refine nx_callVr [.int a1, .int (iz 2)] (fun r => .int r) (fun _ => (mW Γ M0 m g)) cw_8_165 cv_X8_of (fun r e => cM_of X.2.1  e) mW_m rfl rfl (Nat.le_of_ble_eq_true rfl) (Nat.le_of_ble_eq_true rfl) dX8_readable_51 rfl (fun x7 => ?_)
          refine nx_iconst dX8_readable_54 rfl ?_
          refine nx_icmp_eq (t := 70) dX8_readable_55 (by decide) rfl ?_ ?_
          · refine nx_iconst dX8_readable_70 rfl ?_
            refine nx_goto (q := 75) dX8_readable_71 (by decide) ?_
            obtain ⟨_, _⟩ := s4
            exact nx_leaf rfl
          · refine nx_aload_n rfl dX8_readable_58 rfl ?_
            refine nx_iload_n rfl dX8_readable_59 rfl ?_
            refine nx_iload rfl dX8_readable_60 rfl ?_
            refine nx_iconst dX8_readable_62 rfl ?_
            refine nx_callVr [.int a2, .int s4.2, .int (iz 4)] (fun r => .int r) (fun _ => (mW Γ M0 m g)) cw_8_174 cv_X8_its (fun r e => cM_its X.2.1  e) mW_m rfl rfl (Nat.le_of_ble_eq_true rfl) (Nat.le_of_ble_eq_true rfl) dX8_readable_63 rfl (fun x8 => ?_)
            refine nx_iconst dX8_readable_66 rfl ?_
            refine nx_icmp_ne (t := 74) dX8_readable_67 (by decide) rfl ?_ ?_
            · refine nx_iconst dX8_readable_74 rfl ?_
              obtain ⟨_, _⟩ := s4
              exact nx_leaf rfl
            · refine nx_iconst dX8_readable_70 rfl ?_
              refine nx_goto (q := 75) dX8_readable_71 (by decide) ?_
              obtain ⟨_, _⟩ := s4
              exact nx_leaf rfl
      refine nx_istore [some (.ref m), some (.int a1), some (.int a2), some (.int s4.1), some (.int s4.2), some (.int s9)] dX8_readable_75 rfl (Nat.le_of_ble_eq_true rfl) rfl rfl ?_
      refine nx_iload rfl dX8_readable_77 rfl ?_
      refine nx_seq (C1 := fun s10 : Int32 => .inl (88, [some (.ref m), some (.int a1), some (.int a2), some (.int s4.1), some (.int s4.2), some (.int s9)], [.int s10], (mW Γ M0 m g))) ?_ (fun s10 => ?_)
      · refine nx_if_eq (t := 87) dX8_readable_79 (by decide) rfl ?_ ?_
        · refine nx_iconst dX8_readable_87 rfl ?_
          obtain ⟨_, _⟩ := s4
          exact nx_leaf rfl
        · refine nx_iload rfl dX8_readable_82 rfl ?_
          refine nx_goto (q := 88) dX8_readable_84 (by decide) ?_
          obtain ⟨_, _⟩ := s4
          exact nx_leaf rfl
      refine nx_istore_n [some (.ref m), some (.int a1), some (.int a2), some (.int s10), some (.int s4.2), some (.int s9)] dX8_readable_88 rfl (Nat.le_of_ble_eq_true rfl) rfl rfl ?_
      refine nx_iinc [some (.ref m), some (.int a1), some (.int a2), some (.int s10), some (.int (s4.2 + iz (-1))), some (.int s9)] dX8_readable_89 rfl rfl (Nat.le_of_ble_eq_true rfl) rfl rfl ?_
      refine nx_goto (q := 21) dX8_readable_92 (by decide) ?_
      refine nx_weak (ls' := [some (.ref m), some (.int a1), some (.int a2), some (.int s10), some (.int (s4.2 + iz (-1))), none]) (nx_wk_s (nx_wk_s (nx_wk_s (nx_wk_s (nx_wk_s (nx_wk_n nx_wk_e)))))) ?_
      obtain ⟨_, _⟩ := s4
      exact nx_leaf rfl
set_option maxRecDepth 4000 in
theorem jM_readable {Γ : nx_G} {M0 : nx_M} {m : Nat} (u : Nat) (g : mS) (a1 : Int32) (a2 : Int32)   (X : nx_X) (Z : nx_Z) : nx_J Γ X (RX8, cX8_readable, 6, (some .int), "readable", 4) Z (fun r0 : Int32 => .inr (some (.int r0), (mW Γ M0 m g))) (.inl (0, [some (.ref m), some (.int a1), some (.int a2), none, none, none], [], (mW Γ M0 m g))) (fM_readable u g a1 a2) := by
  unfold fM_readable
  refine nx_aload_n rfl dX8_readable_0 rfl ?_
  refine nx_iload_n rfl dX8_readable_1 rfl ?_
  refine nx_aload_n rfl dX8_readable_2 rfl ?_
  refine nx_iload_n rfl dX8_readable_3 rfl ?_
  refine nx_iconst dX8_readable_4 rfl ?_
  refine nx_callVr [.int a1, .int (iz 1)] (fun r => .int r) (fun _ => (mW Γ M0 m g)) cw_8_165 cv_X8_of (fun r e => cM_of X.2.1  e) mW_m rfl rfl (Nat.le_of_ble_eq_true rfl) (Nat.le_of_ble_eq_true rfl) dX8_readable_5 rfl (fun x1 => ?_)
  refine nx_callVr [.int a2, .int x1] (fun r => .int r) (fun _ => (mW Γ M0 m g)) cw_8_177 cv_X8_placeOf (fun r e => cM_placeOf X.2.1  e) mW_m rfl rfl (Nat.le_of_ble_eq_true rfl) (Nat.le_of_ble_eq_true rfl) dX8_readable_8 rfl (fun x2 => ?_)
  refine nx_istore_n [some (.ref m), some (.int a1), some (.int a2), some (.int x2), none, none] dX8_readable_11 rfl (Nat.le_of_ble_eq_true rfl) rfl rfl ?_
  refine nx_aload_n rfl dX8_readable_12 rfl ?_
  refine nx_iload_n rfl dX8_readable_13 rfl ?_
  refine nx_callVr [.int a2] (fun r => .int r) (fun _ => (mW Γ M0 m g)) cw_8_171 cv_X8_many (fun r e => cM_many X.2.1  e) mW_m rfl rfl (Nat.le_of_ble_eq_true rfl) (Nat.le_of_ble_eq_true rfl) dX8_readable_14 rfl (fun x3 => ?_)
  refine nx_iconst dX8_readable_17 rfl ?_
  refine nx_isub dX8_readable_18 rfl ?_
  refine nx_istore [some (.ref m), some (.int a1), some (.int a2), some (.int x2), some (.int (x3 - (iz 1))), none] dX8_readable_19 rfl (Nat.le_of_ble_eq_true rfl) rfl rfl ?_
  refine nx_seq (C1 := fun e11 : Int32 => .inl (95, [some (.ref m), some (.int a1), some (.int a2), some (.int e11), none, none], [], (mW Γ M0 m g))) (nx_loop (C1 := fun s4 : Int32 × Int32 => .inl (21, [some (.ref m), some (.int a1), some (.int a2), some (.int s4.1), some (.int s4.2), none], [], (mW Γ M0 m g))) (fun s4 => jM_readable_21  u g a1 a2 X Z s4) (x2, (x3 - (iz 1)))) (fun e11 => ?_)
  refine nx_iload_n rfl dX8_readable_95 rfl ?_
  exact nx_iret dX8_readable_96 rfl rfl
theorem cM_readable (l : Launch) {Γ : nx_G} {M0 : nx_M} {m : Nat} {u : Nat} {g : mS} {a1 : Int32} {a2 : Int32} {r : Int32}  (h : fM_readable u g a1 a2 = some r) : nx_Ct l Γ 4 yX8_readable cX8_readable 6 (some .int) [.ref m, .int a1, .int a2] (mW Γ M0 m g) (some (.int r), (mW Γ M0 m g)) :=
  nx_ct (out := fun r0 : Int32 => (some (.int r0), (mW Γ M0 m g))) [some (.ref m), some (.int a1), some (.int a2), none, none, none] pn_RX8 h (Nat.le_of_ble_eq_true rfl) rfl (fun X Z _ => jM_readable  u g a1 a2 X Z)
theorem dX8_isLate_0 : decode cX8_isLate 0 = .ok (.iconst 0, 1) := by decide +kernel
theorem dX8_isLate_1 : decode cX8_isLate 1 = .ok (.istore_n 3, 1) := by decide +kernel
theorem dX8_isLate_2 : decode cX8_isLate 2 = .ok (.iconst 0, 1) := by decide +kernel
theorem dX8_isLate_3 : decode cX8_isLate 3 = .ok (.istore 4, 2) := by decide +kernel
theorem dX8_isLate_5 : decode cX8_isLate 5 = .ok (.iload 4, 2) := by decide +kernel
theorem dX8_isLate_7 : decode cX8_isLate 7 = .ok (.aload_n 0, 1) := by decide +kernel
theorem dX8_isLate_8 : decode cX8_isLate 8 = .ok (.iload_n 1, 1) := by decide +kernel
theorem dX8_isLate_9 : decode cX8_isLate 9 = .ok (.invokevirtual 171, 3) := by decide +kernel
theorem dX8_isLate_12 : decode cX8_isLate 12 = .ok (.if_icmp .ge 43, 3) := by decide +kernel
theorem dX8_isLate_15 : decode cX8_isLate 15 = .ok (.iload_n 3, 1) := by decide +kernel
theorem dX8_isLate_16 : decode cX8_isLate 16 = .ok (.ifCond .ne 27, 3) := by decide +kernel
theorem dX8_isLate_19 : decode cX8_isLate 19 = .ok (.aload_n 0, 1) := by decide +kernel
theorem dX8_isLate_20 : decode cX8_isLate 20 = .ok (.iload_n 1, 1) := by decide +kernel
theorem dX8_isLate_21 : decode cX8_isLate 21 = .ok (.iload 4, 2) := by decide +kernel
theorem dX8_isLate_23 : decode cX8_isLate 23 = .ok (.iconst 1, 1) := by decide +kernel
theorem dX8_isLate_24 : decode cX8_isLate 24 = .ok (.invokevirtual 174, 3) := by decide +kernel
theorem dX8_isLate_27 : decode cX8_isLate 27 = .ok (.iload_n 2, 1) := by decide +kernel
theorem dX8_isLate_28 : decode cX8_isLate 28 = .ok (.if_icmp .gt 19, 3) := by decide +kernel
theorem dX8_isLate_31 : decode cX8_isLate 31 = .ok (.aload_n 0, 1) := by decide +kernel
theorem dX8_isLate_32 : decode cX8_isLate 32 = .ok (.iload_n 1, 1) := by decide +kernel
theorem dX8_isLate_33 : decode cX8_isLate 33 = .ok (.iload 4, 2) := by decide +kernel
theorem dX8_isLate_35 : decode cX8_isLate 35 = .ok (.iconst 3, 1) := by decide +kernel
theorem dX8_isLate_36 : decode cX8_isLate 36 = .ok (.invokevirtual 174, 3) := by decide +kernel
theorem dX8_isLate_39 : decode cX8_isLate 39 = .ok (.iload_n 2, 1) := by decide +kernel
theorem dX8_isLate_40 : decode cX8_isLate 40 = .ok (.if_icmp .le 7, 3) := by decide +kernel
theorem dX8_isLate_43 : decode cX8_isLate 43 = .ok (.iconst 1, 1) := by decide +kernel
theorem dX8_isLate_44 : decode cX8_isLate 44 = .ok (.goto 4, 3) := by decide +kernel
theorem dX8_isLate_47 : decode cX8_isLate 47 = .ok (.iconst 0, 1) := by decide +kernel
theorem dX8_isLate_48 : decode cX8_isLate 48 = .ok (.istore_n 3, 1) := by decide +kernel
theorem dX8_isLate_49 : decode cX8_isLate 49 = .ok (.iinc 4 1, 3) := by decide +kernel
theorem dX8_isLate_52 : decode cX8_isLate 52 = .ok (.goto (-47), 3) := by decide +kernel
theorem dX8_isLate_55 : decode cX8_isLate 55 = .ok (.iload_n 3, 1) := by decide +kernel
theorem dX8_isLate_56 : decode cX8_isLate 56 = .ok (.ireturn, 1) := by decide +kernel
def fM_isLate_5 (u : Nat) (g : mS) (a1 : Int32) (a2 : Int32) (s1 : Int32 × Int32) : Option ((Int32 × Int32) ⊕ (Int32)) :=
  (fM_many u g a1).bind fun x2 =>
  if x2 ≤ s1.2 then
    some (.inr s1.1)
  else
    (if s1.1 = iz 0 then
       (fM_its u g a1 s1.2 (iz 1)).bind fun x3 =>
       if a2 < x3 then
         some (iz 0)
       else
         (fM_its u g a1 s1.2 (iz 3)).bind fun x4 =>
         if x4 ≤ a2 then
           some (iz 0)
         else
           some (iz 1)
     else
       some (iz 1) : Option (Int32)).bind fun s5 =>
    some (.inl (s5, (s1.2 + iz 1)))
def fM_isLate (u : Nat) (g : mS) (a1 : Int32) (a2 : Int32) : Option (Bool) :=
  (nx_iter u (fM_isLate_5 u g a1 a2) ((iz 0), (iz 0))).bind fun e6 =>
  (nx_tob e6).bind fun b7 =>
  some b7
set_option maxRecDepth 4000 in
theorem jM_isLate_5 {Γ : nx_G} {M0 : nx_M} {m : Nat} (u : Nat) (g : mS) (a1 : Int32) (a2 : Int32)   (X : nx_X) (Z : nx_Z) (s1 : Int32 × Int32) : nx_J Γ X (RX8, cX8_isLate, 5, (some .boolean), "isLate", 3) Z (Sum.elim (fun s1 : Int32 × Int32 => .inl (5, [some (.ref m), some (.int a1), some (.int a2), some (.int s1.1), some (.int s1.2)], [], (mW Γ M0 m g))) (fun e6 : Int32 => .inl (55, [some (.ref m), some (.int a1), some (.int a2), some (.int e6), none], [], (mW Γ M0 m g)))) (.inl (5, [some (.ref m), some (.int a1), some (.int a2), some (.int s1.1), some (.int s1.2)], [], (mW Γ M0 m g))) (fM_isLate_5 u g a1 a2 s1) := by
  unfold fM_isLate_5
  refine nx_iload rfl dX8_isLate_5 rfl ?_
  refine nx_aload_n rfl dX8_isLate_7 rfl ?_
  refine nx_iload_n rfl dX8_isLate_8 rfl ?_
  refine nx_callVr [.int a1] (fun r => .int r) (fun _ => (mW Γ M0 m g)) cw_8_171 cv_X8_many (fun r e => cM_many X.2.1  e) mW_m rfl rfl (Nat.le_of_ble_eq_true rfl) (Nat.le_of_ble_eq_true rfl) dX8_isLate_9 rfl (fun x2 => ?_)
  refine nx_icmp_ge (t := 55) dX8_isLate_12 (by decide) rfl ?_ ?_
  · refine nx_weak (ls' := [some (.ref m), some (.int a1), some (.int a2), some (.int s1.1), none]) (nx_wk_s (nx_wk_s (nx_wk_s (nx_wk_s (nx_wk_n nx_wk_e))))) ?_
    obtain ⟨_, _⟩ := s1
    exact nx_leaf rfl
  · refine nx_iload_n rfl dX8_isLate_15 rfl ?_
    refine nx_seq (C1 := fun s5 : Int32 => .inl (48, [some (.ref m), some (.int a1), some (.int a2), some (.int s1.1), some (.int s1.2)], [.int s5], (mW Γ M0 m g))) ?_ (fun s5 => ?_)
    · refine nx_if_ne (t := 43) dX8_isLate_16 (by decide) rfl ?_ ?_
      · refine nx_iconst dX8_isLate_43 rfl ?_
        refine nx_goto (q := 48) dX8_isLate_44 (by decide) ?_
        obtain ⟨_, _⟩ := s1
        exact nx_leaf rfl
      · refine nx_aload_n rfl dX8_isLate_19 rfl ?_
        refine nx_iload_n rfl dX8_isLate_20 rfl ?_
        refine nx_iload rfl dX8_isLate_21 rfl ?_
        refine nx_iconst dX8_isLate_23 rfl ?_
        refine nx_callVr [.int a1, .int s1.2, .int (iz 1)] (fun r => .int r) (fun _ => (mW Γ M0 m g)) cw_8_174 cv_X8_its (fun r e => cM_its X.2.1  e) mW_m rfl rfl (Nat.le_of_ble_eq_true rfl) (Nat.le_of_ble_eq_true rfl) dX8_isLate_24 rfl (fun x3 => ?_)
        refine nx_iload_n rfl dX8_isLate_27 rfl ?_
        refine nx_icmp_gt (t := 47) dX8_isLate_28 (by decide) rfl ?_ ?_
        · refine nx_iconst dX8_isLate_47 rfl ?_
          obtain ⟨_, _⟩ := s1
          exact nx_leaf rfl
        · refine nx_aload_n rfl dX8_isLate_31 rfl ?_
          refine nx_iload_n rfl dX8_isLate_32 rfl ?_
          refine nx_iload rfl dX8_isLate_33 rfl ?_
          refine nx_iconst dX8_isLate_35 rfl ?_
          refine nx_callVr [.int a1, .int s1.2, .int (iz 3)] (fun r => .int r) (fun _ => (mW Γ M0 m g)) cw_8_174 cv_X8_its (fun r e => cM_its X.2.1  e) mW_m rfl rfl (Nat.le_of_ble_eq_true rfl) (Nat.le_of_ble_eq_true rfl) dX8_isLate_36 rfl (fun x4 => ?_)
          refine nx_iload_n rfl dX8_isLate_39 rfl ?_
          refine nx_icmp_le (t := 47) dX8_isLate_40 (by decide) rfl ?_ ?_
          · refine nx_iconst dX8_isLate_47 rfl ?_
            obtain ⟨_, _⟩ := s1
            exact nx_leaf rfl
          · refine nx_iconst dX8_isLate_43 rfl ?_
            refine nx_goto (q := 48) dX8_isLate_44 (by decide) ?_
            obtain ⟨_, _⟩ := s1
            exact nx_leaf rfl
    refine nx_istore_n [some (.ref m), some (.int a1), some (.int a2), some (.int s5), some (.int s1.2)] dX8_isLate_48 rfl (Nat.le_of_ble_eq_true rfl) rfl rfl ?_
    refine nx_iinc [some (.ref m), some (.int a1), some (.int a2), some (.int s5), some (.int (s1.2 + iz 1))] dX8_isLate_49 rfl rfl (Nat.le_of_ble_eq_true rfl) rfl rfl ?_
    refine nx_goto (q := 5) dX8_isLate_52 (by decide) ?_
    obtain ⟨_, _⟩ := s1
    exact nx_leaf rfl
set_option maxRecDepth 4000 in
theorem jM_isLate {Γ : nx_G} {M0 : nx_M} {m : Nat} (u : Nat) (g : mS) (a1 : Int32) (a2 : Int32)   (X : nx_X) (Z : nx_Z) : nx_J Γ X (RX8, cX8_isLate, 5, (some .boolean), "isLate", 3) Z (fun r0 : Bool => .inr (some (.int (bz r0)), (mW Γ M0 m g))) (.inl (0, [some (.ref m), some (.int a1), some (.int a2), none, none], [], (mW Γ M0 m g))) (fM_isLate u g a1 a2) := by
  unfold fM_isLate
  refine nx_iconst dX8_isLate_0 rfl ?_
  refine nx_istore_n [some (.ref m), some (.int a1), some (.int a2), some (.int (iz 0)), none] dX8_isLate_1 rfl (Nat.le_of_ble_eq_true rfl) rfl rfl ?_
  refine nx_iconst dX8_isLate_2 rfl ?_
  refine nx_istore [some (.ref m), some (.int a1), some (.int a2), some (.int (iz 0)), some (.int (iz 0))] dX8_isLate_3 rfl (Nat.le_of_ble_eq_true rfl) rfl rfl ?_
  refine nx_seq (C1 := fun e6 : Int32 => .inl (55, [some (.ref m), some (.int a1), some (.int a2), some (.int e6), none], [], (mW Γ M0 m g))) (nx_loop (C1 := fun s1 : Int32 × Int32 => .inl (5, [some (.ref m), some (.int a1), some (.int a2), some (.int s1.1), some (.int s1.2)], [], (mW Γ M0 m g))) (fun s1 => jM_isLate_5  u g a1 a2 X Z s1) ((iz 0), (iz 0))) (fun e6 => ?_)
  refine nx_iload_n rfl dX8_isLate_55 rfl ?_
  refine nx_zretI (fun b7 => ?_)
  exact nx_zret dX8_isLate_56 rfl rfl
theorem cM_isLate (l : Launch) {Γ : nx_G} {M0 : nx_M} {m : Nat} {u : Nat} {g : mS} {a1 : Int32} {a2 : Int32} {r : Bool}  (h : fM_isLate u g a1 a2 = some r) : nx_Ct l Γ 3 yX8_isLate cX8_isLate 5 (some .boolean) [.ref m, .int a1, .int a2] (mW Γ M0 m g) (some (.int (bz r)), (mW Γ M0 m g)) :=
  nx_ct (out := fun r0 : Bool => (some (.int (bz r0)), (mW Γ M0 m g))) [some (.ref m), some (.int a1), some (.int a2), none, none] pn_RX8 h (Nat.le_of_ble_eq_true rfl) rfl (fun X Z _ => jM_isLate  u g a1 a2 X Z)
theorem dX8_addVersion_0 : decode cX8_addVersion 0 = .ok (.aload_n 0, 1) := by decide +kernel
theorem dX8_addVersion_1 : decode cX8_addVersion 1 = .ok (.iload_n 1, 1) := by decide +kernel
theorem dX8_addVersion_2 : decode cX8_addVersion 2 = .ok (.iconst 1, 1) := by decide +kernel
theorem dX8_addVersion_3 : decode cX8_addVersion 3 = .ok (.invokevirtual 165, 3) := by decide +kernel
theorem dX8_addVersion_6 : decode cX8_addVersion 6 = .ok (.istore 4, 2) := by decide +kernel
theorem dX8_addVersion_8 : decode cX8_addVersion 8 = .ok (.aload_n 0, 1) := by decide +kernel
theorem dX8_addVersion_9 : decode cX8_addVersion 9 = .ok (.iload_n 2, 1) := by decide +kernel
theorem dX8_addVersion_10 : decode cX8_addVersion 10 = .ok (.invokevirtual 171, 3) := by decide +kernel
theorem dX8_addVersion_13 : decode cX8_addVersion 13 = .ok (.istore 5, 2) := by decide +kernel
theorem dX8_addVersion_15 : decode cX8_addVersion 15 = .ok (.aload_n 0, 1) := by decide +kernel
theorem dX8_addVersion_16 : decode cX8_addVersion 16 = .ok (.getfield 28, 3) := by decide +kernel
theorem dX8_addVersion_19 : decode cX8_addVersion 19 = .ok (.iload_n 2, 1) := by decide +kernel
theorem dX8_addVersion_20 : decode cX8_addVersion 20 = .ok (.invokestatic 135, 3) := by decide +kernel
theorem dX8_addVersion_23 : decode cX8_addVersion 23 = .ok (.dup2, 1) := by decide +kernel
theorem dX8_addVersion_24 : decode cX8_addVersion 24 = .ok (.iaload, 1) := by decide +kernel
theorem dX8_addVersion_25 : decode cX8_addVersion 25 = .ok (.iconst 1, 1) := by decide +kernel
theorem dX8_addVersion_26 : decode cX8_addVersion 26 = .ok (.iadd, 1) := by decide +kernel
theorem dX8_addVersion_27 : decode cX8_addVersion 27 = .ok (.iastore, 1) := by decide +kernel
theorem dX8_addVersion_28 : decode cX8_addVersion 28 = .ok (.iload 5, 2) := by decide +kernel
theorem dX8_addVersion_30 : decode cX8_addVersion 30 = .ok (.ifCond .le 67, 3) := by decide +kernel
theorem dX8_addVersion_33 : decode cX8_addVersion 33 = .ok (.aload_n 0, 1) := by decide +kernel
theorem dX8_addVersion_34 : decode cX8_addVersion 34 = .ok (.iload_n 2, 1) := by decide +kernel
theorem dX8_addVersion_35 : decode cX8_addVersion 35 = .ok (.iload 5, 2) := by decide +kernel
theorem dX8_addVersion_37 : decode cX8_addVersion 37 = .ok (.iconst 1, 1) := by decide +kernel
theorem dX8_addVersion_38 : decode cX8_addVersion 38 = .ok (.isub, 1) := by decide +kernel
theorem dX8_addVersion_39 : decode cX8_addVersion 39 = .ok (.iconst 1, 1) := by decide +kernel
theorem dX8_addVersion_40 : decode cX8_addVersion 40 = .ok (.invokevirtual 174, 3) := by decide +kernel
theorem dX8_addVersion_43 : decode cX8_addVersion 43 = .ok (.iload 4, 2) := by decide +kernel
theorem dX8_addVersion_45 : decode cX8_addVersion 45 = .ok (.if_icmp .le 52, 3) := by decide +kernel
theorem dX8_addVersion_48 : decode cX8_addVersion 48 = .ok (.iconst 1, 1) := by decide +kernel
theorem dX8_addVersion_49 : decode cX8_addVersion 49 = .ok (.istore 6, 2) := by decide +kernel
theorem dX8_addVersion_51 : decode cX8_addVersion 51 = .ok (.iload 6, 2) := by decide +kernel
theorem dX8_addVersion_53 : decode cX8_addVersion 53 = .ok (.iconst 4, 1) := by decide +kernel
theorem dX8_addVersion_54 : decode cX8_addVersion 54 = .ok (.if_icmp .gt 37, 3) := by decide +kernel
theorem dX8_addVersion_57 : decode cX8_addVersion 57 = .ok (.aload_n 0, 1) := by decide +kernel
theorem dX8_addVersion_58 : decode cX8_addVersion 58 = .ok (.getfield 28, 3) := by decide +kernel
theorem dX8_addVersion_61 : decode cX8_addVersion 61 = .ok (.iload_n 2, 1) := by decide +kernel
theorem dX8_addVersion_62 : decode cX8_addVersion 62 = .ok (.iload 5, 2) := by decide +kernel
theorem dX8_addVersion_64 : decode cX8_addVersion 64 = .ok (.iload 6, 2) := by decide +kernel
theorem dX8_addVersion_66 : decode cX8_addVersion 66 = .ok (.invokestatic 138, 3) := by decide +kernel
theorem dX8_addVersion_69 : decode cX8_addVersion 69 = .ok (.aload_n 0, 1) := by decide +kernel
theorem dX8_addVersion_70 : decode cX8_addVersion 70 = .ok (.getfield 28, 3) := by decide +kernel
theorem dX8_addVersion_73 : decode cX8_addVersion 73 = .ok (.iload_n 2, 1) := by decide +kernel
theorem dX8_addVersion_74 : decode cX8_addVersion 74 = .ok (.iload 5, 2) := by decide +kernel
theorem dX8_addVersion_76 : decode cX8_addVersion 76 = .ok (.iconst 1, 1) := by decide +kernel
theorem dX8_addVersion_77 : decode cX8_addVersion 77 = .ok (.isub, 1) := by decide +kernel
theorem dX8_addVersion_78 : decode cX8_addVersion 78 = .ok (.iload 6, 2) := by decide +kernel
theorem dX8_addVersion_80 : decode cX8_addVersion 80 = .ok (.invokestatic 138, 3) := by decide +kernel
theorem dX8_addVersion_83 : decode cX8_addVersion 83 = .ok (.iaload, 1) := by decide +kernel
theorem dX8_addVersion_84 : decode cX8_addVersion 84 = .ok (.iastore, 1) := by decide +kernel
theorem dX8_addVersion_85 : decode cX8_addVersion 85 = .ok (.iinc 6 1, 3) := by decide +kernel
theorem dX8_addVersion_88 : decode cX8_addVersion 88 = .ok (.goto (-37), 3) := by decide +kernel
theorem dX8_addVersion_91 : decode cX8_addVersion 91 = .ok (.iinc 5 (-1), 3) := by decide +kernel
theorem dX8_addVersion_94 : decode cX8_addVersion 94 = .ok (.goto (-66), 3) := by decide +kernel
theorem dX8_addVersion_97 : decode cX8_addVersion 97 = .ok (.aload_n 0, 1) := by decide +kernel
theorem dX8_addVersion_98 : decode cX8_addVersion 98 = .ok (.getfield 28, 3) := by decide +kernel
theorem dX8_addVersion_101 : decode cX8_addVersion 101 = .ok (.iload_n 2, 1) := by decide +kernel
theorem dX8_addVersion_102 : decode cX8_addVersion 102 = .ok (.iload 5, 2) := by decide +kernel
theorem dX8_addVersion_104 : decode cX8_addVersion 104 = .ok (.iconst 1, 1) := by decide +kernel
theorem dX8_addVersion_105 : decode cX8_addVersion 105 = .ok (.invokestatic 138, 3) := by decide +kernel
theorem dX8_addVersion_108 : decode cX8_addVersion 108 = .ok (.iload 4, 2) := by decide +kernel
theorem dX8_addVersion_110 : decode cX8_addVersion 110 = .ok (.iastore, 1) := by decide +kernel
theorem dX8_addVersion_111 : decode cX8_addVersion 111 = .ok (.aload_n 0, 1) := by decide +kernel
theorem dX8_addVersion_112 : decode cX8_addVersion 112 = .ok (.getfield 28, 3) := by decide +kernel
theorem dX8_addVersion_115 : decode cX8_addVersion 115 = .ok (.iload_n 2, 1) := by decide +kernel
theorem dX8_addVersion_116 : decode cX8_addVersion 116 = .ok (.iload 5, 2) := by decide +kernel
theorem dX8_addVersion_118 : decode cX8_addVersion 118 = .ok (.iconst 2, 1) := by decide +kernel
theorem dX8_addVersion_119 : decode cX8_addVersion 119 = .ok (.invokestatic 138, 3) := by decide +kernel
theorem dX8_addVersion_122 : decode cX8_addVersion 122 = .ok (.iload_n 3, 1) := by decide +kernel
theorem dX8_addVersion_123 : decode cX8_addVersion 123 = .ok (.iastore, 1) := by decide +kernel
theorem dX8_addVersion_124 : decode cX8_addVersion 124 = .ok (.aload_n 0, 1) := by decide +kernel
theorem dX8_addVersion_125 : decode cX8_addVersion 125 = .ok (.getfield 28, 3) := by decide +kernel
theorem dX8_addVersion_128 : decode cX8_addVersion 128 = .ok (.iload_n 2, 1) := by decide +kernel
theorem dX8_addVersion_129 : decode cX8_addVersion 129 = .ok (.iload 5, 2) := by decide +kernel
theorem dX8_addVersion_131 : decode cX8_addVersion 131 = .ok (.iconst 3, 1) := by decide +kernel
theorem dX8_addVersion_132 : decode cX8_addVersion 132 = .ok (.invokestatic 138, 3) := by decide +kernel
theorem dX8_addVersion_135 : decode cX8_addVersion 135 = .ok (.iload 4, 2) := by decide +kernel
theorem dX8_addVersion_137 : decode cX8_addVersion 137 = .ok (.iastore, 1) := by decide +kernel
theorem dX8_addVersion_138 : decode cX8_addVersion 138 = .ok (.aload_n 0, 1) := by decide +kernel
theorem dX8_addVersion_139 : decode cX8_addVersion 139 = .ok (.getfield 28, 3) := by decide +kernel
theorem dX8_addVersion_142 : decode cX8_addVersion 142 = .ok (.iload_n 2, 1) := by decide +kernel
theorem dX8_addVersion_143 : decode cX8_addVersion 143 = .ok (.iload 5, 2) := by decide +kernel
theorem dX8_addVersion_145 : decode cX8_addVersion 145 = .ok (.iconst 4, 1) := by decide +kernel
theorem dX8_addVersion_146 : decode cX8_addVersion 146 = .ok (.invokestatic 138, 3) := by decide +kernel
theorem dX8_addVersion_149 : decode cX8_addVersion 149 = .ok (.iload_n 1, 1) := by decide +kernel
theorem dX8_addVersion_150 : decode cX8_addVersion 150 = .ok (.iastore, 1) := by decide +kernel
theorem dX8_addVersion_151 : decode cX8_addVersion 151 = .ok (.return_, 1) := by decide +kernel
def fM_addVersion_51 (u : Nat) (a2 : Int32) (s6 : Int32 × mS) (s8 : Int32 × mS) : Option ((Int32 × mS) ⊕ (mS)) :=
  if (iz 4) < s8.1 then
    some (.inr s8.2)
  else
    (fM_cell u a2 s6.1 s8.1).bind fun x9 =>
    (fM_cell u a2 (s6.1 - (iz 1)) s8.1).bind fun x10 =>
    (nx_rd (mlen 7) (s8.2.1 7) x10).bind fun x11 =>
    (mWr s8.2 7 x9 x11).bind fun g12 =>
    some (.inl ((s8.1 + iz 1), g12))
def fM_addVersion_28 (u : Nat) (a2 : Int32) (x1 : Int32) (s6 : Int32 × mS) : Option ((Int32 × mS) ⊕ (Int32 × mS)) :=
  if s6.1 ≤ iz 0 then
    some (.inr (s6.1, s6.2))
  else
    (fM_its u s6.2 a2 (s6.1 - (iz 1)) (iz 1)).bind fun x7 =>
    if x7 ≤ x1 then
      some (.inr (s6.1, s6.2))
    else
      (nx_iter u (fM_addVersion_51 u a2 s6) ((iz 1), s6.2)).bind fun e13 =>
      some (.inl ((s6.1 + iz (-1)), e13))
def fM_addVersion (u : Nat) (g : mS) (a1 : Int32) (a2 : Int32) (a3 : Int32) : Option (mS) :=
  (fM_of u g a1 (iz 1)).bind fun x1 =>
  (fM_many u g a2).bind fun x2 =>
  (fM_keyAt u a2).bind fun x3 =>
  (nx_rd (mlen 7) (g.1 7) x3).bind fun x4 =>
  (mWr g 7 x3 (x4 + (iz 1))).bind fun g5 =>
  (nx_iter u (fM_addVersion_28 u a2 x1) (x2, g5)).bind fun e14 =>
  (fM_cell u a2 e14.1 (iz 1)).bind fun x15 =>
  (mWr e14.2 7 x15 x1).bind fun g16 =>
  (fM_cell u a2 e14.1 (iz 2)).bind fun x17 =>
  (mWr g16 7 x17 a3).bind fun g18 =>
  (fM_cell u a2 e14.1 (iz 3)).bind fun x19 =>
  (mWr g18 7 x19 x1).bind fun g20 =>
  (fM_cell u a2 e14.1 (iz 4)).bind fun x21 =>
  (mWr g20 7 x21 a1).bind fun g22 =>
  some g22
set_option maxRecDepth 4000 in
theorem jM_addVersion_51 {Γ : nx_G} {M0 : nx_M} {m : Nat} (u : Nat) (a1 : Int32) (a2 : Int32) (a3 : Int32) (x1 : Int32) (s6 : Int32 × mS)   (X : nx_X) (Z : nx_Z) (s8 : Int32 × mS) : nx_J Γ X (RX8, cX8_addVersion, 7, none, "addVersion", 3) Z (Sum.elim (fun s8 : Int32 × mS => .inl (51, [some (.ref m), some (.int a1), some (.int a2), some (.int a3), some (.int x1), some (.int s6.1), some (.int s8.1)], [], (mW Γ M0 m s8.2))) (fun e13 : mS => .inl (91, [some (.ref m), some (.int a1), some (.int a2), some (.int a3), some (.int x1), some (.int s6.1), none], [], (mW Γ M0 m e13)))) (.inl (51, [some (.ref m), some (.int a1), some (.int a2), some (.int a3), some (.int x1), some (.int s6.1), some (.int s8.1)], [], (mW Γ M0 m s8.2))) (fM_addVersion_51 u a2 s6 s8) := by
  unfold fM_addVersion_51
  refine nx_iload rfl dX8_addVersion_51 rfl ?_
  refine nx_iconst dX8_addVersion_53 rfl ?_
  refine nx_icmp_gt (t := 91) dX8_addVersion_54 (by decide) rfl ?_ ?_
  · refine nx_weak (ls' := [some (.ref m), some (.int a1), some (.int a2), some (.int a3), some (.int x1), some (.int s6.1), none]) (nx_wk_s (nx_wk_s (nx_wk_s (nx_wk_s (nx_wk_s (nx_wk_s (nx_wk_n nx_wk_e))))))) ?_
    obtain ⟨_, _⟩ := s6
    obtain ⟨_, _⟩ := s8
    exact nx_leaf rfl
  · refine nx_aload_n rfl dX8_addVersion_57 rfl ?_
    refine nx_getf fl_8_28 mW_m rfl dX8_addVersion_58 rfl ?_
    refine nx_iload_n rfl dX8_addVersion_61 rfl ?_
    refine nx_iload rfl dX8_addVersion_62 rfl ?_
    refine nx_iload rfl dX8_addVersion_64 rfl ?_
    refine nx_callSr [.int a2, .int s6.1, .int s8.1] (fun r => .int r) (fun _ => (mW Γ M0 m s8.2)) cw_8_138 wd_1321 (fun r e => cM_cell X.2.1  e) rfl rfl (Nat.le_of_ble_eq_true rfl) (Nat.le_of_ble_eq_true rfl) dX8_addVersion_66 rfl (fun x9 => ?_)
    refine nx_aload_n rfl dX8_addVersion_69 rfl ?_
    refine nx_getf fl_8_28 mW_m rfl dX8_addVersion_70 rfl ?_
    refine nx_iload_n rfl dX8_addVersion_73 rfl ?_
    refine nx_iload rfl dX8_addVersion_74 rfl ?_
    refine nx_iconst dX8_addVersion_76 rfl ?_
    refine nx_isub dX8_addVersion_77 rfl ?_
    refine nx_iload rfl dX8_addVersion_78 rfl ?_
    refine nx_callSr [.int a2, .int (s6.1 - (iz 1)), .int s8.1] (fun r => .int r) (fun _ => (mW Γ M0 m s8.2)) cw_8_138 wd_1321 (fun r e => cM_cell X.2.1  e) rfl rfl (Nat.le_of_ble_eq_true rfl) (Nat.le_of_ble_eq_true rfl) dX8_addVersion_80 rfl (fun x10 => ?_)
    refine m_iald 7 ⟨Nat.le_of_ble_eq_true rfl, Nat.le_of_ble_eq_true rfl⟩ dX8_addVersion_83 rfl (fun x11 => ?_)
    refine m_iast 7 ⟨Nat.le_of_ble_eq_true rfl, Nat.le_of_ble_eq_true rfl⟩ dX8_addVersion_84 rfl (fun g12 => ?_)
    refine nx_iinc [some (.ref m), some (.int a1), some (.int a2), some (.int a3), some (.int x1), some (.int s6.1), some (.int (s8.1 + iz 1))] dX8_addVersion_85 rfl rfl (Nat.le_of_ble_eq_true rfl) rfl rfl ?_
    refine nx_goto (q := 51) dX8_addVersion_88 (by decide) ?_
    obtain ⟨_, _⟩ := s6
    obtain ⟨_, _⟩ := s8
    exact nx_leaf rfl
set_option maxRecDepth 4000 in
theorem jM_addVersion_28 {Γ : nx_G} {M0 : nx_M} {m : Nat} (u : Nat) (a1 : Int32) (a2 : Int32) (a3 : Int32) (x1 : Int32)   (X : nx_X) (Z : nx_Z) (s6 : Int32 × mS) : nx_J Γ X (RX8, cX8_addVersion, 7, none, "addVersion", 3) Z (Sum.elim (fun s6 : Int32 × mS => .inl (28, [some (.ref m), some (.int a1), some (.int a2), some (.int a3), some (.int x1), some (.int s6.1), none], [], (mW Γ M0 m s6.2))) (fun e14 : Int32 × mS => .inl (97, [some (.ref m), some (.int a1), some (.int a2), some (.int a3), some (.int x1), some (.int e14.1), none], [], (mW Γ M0 m e14.2)))) (.inl (28, [some (.ref m), some (.int a1), some (.int a2), some (.int a3), some (.int x1), some (.int s6.1), none], [], (mW Γ M0 m s6.2))) (fM_addVersion_28 u a2 x1 s6) := by
  unfold fM_addVersion_28
  refine nx_iload rfl dX8_addVersion_28 rfl ?_
  refine nx_if_le (t := 97) dX8_addVersion_30 (by decide) rfl ?_ ?_
  · obtain ⟨_, _⟩ := s6
    exact nx_leaf rfl
  · refine nx_aload_n rfl dX8_addVersion_33 rfl ?_
    refine nx_iload_n rfl dX8_addVersion_34 rfl ?_
    refine nx_iload rfl dX8_addVersion_35 rfl ?_
    refine nx_iconst dX8_addVersion_37 rfl ?_
    refine nx_isub dX8_addVersion_38 rfl ?_
    refine nx_iconst dX8_addVersion_39 rfl ?_
    refine nx_callVr [.int a2, .int (s6.1 - (iz 1)), .int (iz 1)] (fun r => .int r) (fun _ => (mW Γ M0 m s6.2)) cw_8_174 cv_X8_its (fun r e => cM_its X.2.1  e) mW_m rfl rfl (Nat.le_of_ble_eq_true rfl) (Nat.le_of_ble_eq_true rfl) dX8_addVersion_40 rfl (fun x7 => ?_)
    refine nx_iload rfl dX8_addVersion_43 rfl ?_
    refine nx_icmp_le (t := 97) dX8_addVersion_45 (by decide) rfl ?_ ?_
    · obtain ⟨_, _⟩ := s6
      exact nx_leaf rfl
    · refine nx_iconst dX8_addVersion_48 rfl ?_
      refine nx_istore [some (.ref m), some (.int a1), some (.int a2), some (.int a3), some (.int x1), some (.int s6.1), some (.int (iz 1))] dX8_addVersion_49 rfl (Nat.le_of_ble_eq_true rfl) rfl rfl ?_
      refine nx_seq (C1 := fun e13 : mS => .inl (91, [some (.ref m), some (.int a1), some (.int a2), some (.int a3), some (.int x1), some (.int s6.1), none], [], (mW Γ M0 m e13))) (nx_loop (C1 := fun s8 : Int32 × mS => .inl (51, [some (.ref m), some (.int a1), some (.int a2), some (.int a3), some (.int x1), some (.int s6.1), some (.int s8.1)], [], (mW Γ M0 m s8.2))) (fun s8 => jM_addVersion_51  u a1 a2 a3 x1 s6 X Z s8) ((iz 1), s6.2)) (fun e13 => ?_)
      refine nx_iinc [some (.ref m), some (.int a1), some (.int a2), some (.int a3), some (.int x1), some (.int (s6.1 + iz (-1))), none] dX8_addVersion_91 rfl rfl (Nat.le_of_ble_eq_true rfl) rfl rfl ?_
      refine nx_goto (q := 28) dX8_addVersion_94 (by decide) ?_
      obtain ⟨_, _⟩ := s6
      exact nx_leaf rfl
set_option maxRecDepth 4000 in
theorem jM_addVersion {Γ : nx_G} {M0 : nx_M} {m : Nat} (u : Nat) (g : mS) (a1 : Int32) (a2 : Int32) (a3 : Int32)   (X : nx_X) (Z : nx_Z) : nx_J Γ X (RX8, cX8_addVersion, 7, none, "addVersion", 3) Z (fun r0 : mS => .inr (none, (mW Γ M0 m r0))) (.inl (0, [some (.ref m), some (.int a1), some (.int a2), some (.int a3), none, none, none], [], (mW Γ M0 m g))) (fM_addVersion u g a1 a2 a3) := by
  unfold fM_addVersion
  refine nx_aload_n rfl dX8_addVersion_0 rfl ?_
  refine nx_iload_n rfl dX8_addVersion_1 rfl ?_
  refine nx_iconst dX8_addVersion_2 rfl ?_
  refine nx_callVr [.int a1, .int (iz 1)] (fun r => .int r) (fun _ => (mW Γ M0 m g)) cw_8_165 cv_X8_of (fun r e => cM_of X.2.1  e) mW_m rfl rfl (Nat.le_of_ble_eq_true rfl) (Nat.le_of_ble_eq_true rfl) dX8_addVersion_3 rfl (fun x1 => ?_)
  refine nx_istore [some (.ref m), some (.int a1), some (.int a2), some (.int a3), some (.int x1), none, none] dX8_addVersion_6 rfl (Nat.le_of_ble_eq_true rfl) rfl rfl ?_
  refine nx_aload_n rfl dX8_addVersion_8 rfl ?_
  refine nx_iload_n rfl dX8_addVersion_9 rfl ?_
  refine nx_callVr [.int a2] (fun r => .int r) (fun _ => (mW Γ M0 m g)) cw_8_171 cv_X8_many (fun r e => cM_many X.2.1  e) mW_m rfl rfl (Nat.le_of_ble_eq_true rfl) (Nat.le_of_ble_eq_true rfl) dX8_addVersion_10 rfl (fun x2 => ?_)
  refine nx_istore [some (.ref m), some (.int a1), some (.int a2), some (.int a3), some (.int x1), some (.int x2), none] dX8_addVersion_13 rfl (Nat.le_of_ble_eq_true rfl) rfl rfl ?_
  refine nx_aload_n rfl dX8_addVersion_15 rfl ?_
  refine nx_getf fl_8_28 mW_m rfl dX8_addVersion_16 rfl ?_
  refine nx_iload_n rfl dX8_addVersion_19 rfl ?_
  refine nx_callSr [.int a2] (fun r => .int r) (fun _ => (mW Γ M0 m g)) cw_8_135 wd_1318 (fun r e => cM_keyAt X.2.1  e) rfl rfl (Nat.le_of_ble_eq_true rfl) (Nat.le_of_ble_eq_true rfl) dX8_addVersion_20 rfl (fun x3 => ?_)
  refine nx_dup2 rfl rfl dX8_addVersion_23 rfl ?_
  refine m_iald 7 ⟨Nat.le_of_ble_eq_true rfl, Nat.le_of_ble_eq_true rfl⟩ dX8_addVersion_24 rfl (fun x4 => ?_)
  refine nx_iconst dX8_addVersion_25 rfl ?_
  refine nx_iadd dX8_addVersion_26 rfl ?_
  refine m_iast 7 ⟨Nat.le_of_ble_eq_true rfl, Nat.le_of_ble_eq_true rfl⟩ dX8_addVersion_27 rfl (fun g5 => ?_)
  refine nx_seq (C1 := fun e14 : Int32 × mS => .inl (97, [some (.ref m), some (.int a1), some (.int a2), some (.int a3), some (.int x1), some (.int e14.1), none], [], (mW Γ M0 m e14.2))) (nx_loop (C1 := fun s6 : Int32 × mS => .inl (28, [some (.ref m), some (.int a1), some (.int a2), some (.int a3), some (.int x1), some (.int s6.1), none], [], (mW Γ M0 m s6.2))) (fun s6 => jM_addVersion_28  u a1 a2 a3 x1 X Z s6) (x2, g5)) (fun e14 => ?_)
  refine nx_aload_n rfl dX8_addVersion_97 rfl ?_
  refine nx_getf fl_8_28 mW_m rfl dX8_addVersion_98 rfl ?_
  refine nx_iload_n rfl dX8_addVersion_101 rfl ?_
  refine nx_iload rfl dX8_addVersion_102 rfl ?_
  refine nx_iconst dX8_addVersion_104 rfl ?_
  refine nx_callSr [.int a2, .int e14.1, .int (iz 1)] (fun r => .int r) (fun _ => (mW Γ M0 m e14.2)) cw_8_138 wd_1321 (fun r e => cM_cell X.2.1  e) rfl rfl (Nat.le_of_ble_eq_true rfl) (Nat.le_of_ble_eq_true rfl) dX8_addVersion_105 rfl (fun x15 => ?_)
  refine nx_iload rfl dX8_addVersion_108 rfl ?_
  refine m_iast 7 ⟨Nat.le_of_ble_eq_true rfl, Nat.le_of_ble_eq_true rfl⟩ dX8_addVersion_110 rfl (fun g16 => ?_)
  refine nx_aload_n rfl dX8_addVersion_111 rfl ?_
  refine nx_getf fl_8_28 mW_m rfl dX8_addVersion_112 rfl ?_
  refine nx_iload_n rfl dX8_addVersion_115 rfl ?_
  refine nx_iload rfl dX8_addVersion_116 rfl ?_
  refine nx_iconst dX8_addVersion_118 rfl ?_
  refine nx_callSr [.int a2, .int e14.1, .int (iz 2)] (fun r => .int r) (fun _ => (mW Γ M0 m g16)) cw_8_138 wd_1321 (fun r e => cM_cell X.2.1  e) rfl rfl (Nat.le_of_ble_eq_true rfl) (Nat.le_of_ble_eq_true rfl) dX8_addVersion_119 rfl (fun x17 => ?_)
  refine nx_iload_n rfl dX8_addVersion_122 rfl ?_
  refine m_iast 7 ⟨Nat.le_of_ble_eq_true rfl, Nat.le_of_ble_eq_true rfl⟩ dX8_addVersion_123 rfl (fun g18 => ?_)
  refine nx_aload_n rfl dX8_addVersion_124 rfl ?_
  refine nx_getf fl_8_28 mW_m rfl dX8_addVersion_125 rfl ?_
  refine nx_iload_n rfl dX8_addVersion_128 rfl ?_
  refine nx_iload rfl dX8_addVersion_129 rfl ?_
  refine nx_iconst dX8_addVersion_131 rfl ?_
  refine nx_callSr [.int a2, .int e14.1, .int (iz 3)] (fun r => .int r) (fun _ => (mW Γ M0 m g18)) cw_8_138 wd_1321 (fun r e => cM_cell X.2.1  e) rfl rfl (Nat.le_of_ble_eq_true rfl) (Nat.le_of_ble_eq_true rfl) dX8_addVersion_132 rfl (fun x19 => ?_)
  refine nx_iload rfl dX8_addVersion_135 rfl ?_
  refine m_iast 7 ⟨Nat.le_of_ble_eq_true rfl, Nat.le_of_ble_eq_true rfl⟩ dX8_addVersion_137 rfl (fun g20 => ?_)
  refine nx_aload_n rfl dX8_addVersion_138 rfl ?_
  refine nx_getf fl_8_28 mW_m rfl dX8_addVersion_139 rfl ?_
  refine nx_iload_n rfl dX8_addVersion_142 rfl ?_
  refine nx_iload rfl dX8_addVersion_143 rfl ?_
  refine nx_iconst dX8_addVersion_145 rfl ?_
  refine nx_callSr [.int a2, .int e14.1, .int (iz 4)] (fun r => .int r) (fun _ => (mW Γ M0 m g20)) cw_8_138 wd_1321 (fun r e => cM_cell X.2.1  e) rfl rfl (Nat.le_of_ble_eq_true rfl) (Nat.le_of_ble_eq_true rfl) dX8_addVersion_146 rfl (fun x21 => ?_)
  refine nx_iload_n rfl dX8_addVersion_149 rfl ?_
  refine m_iast 7 ⟨Nat.le_of_ble_eq_true rfl, Nat.le_of_ble_eq_true rfl⟩ dX8_addVersion_150 rfl (fun g22 => ?_)
  exact nx_vret dX8_addVersion_151 rfl rfl
theorem cM_addVersion (l : Launch) {Γ : nx_G} {M0 : nx_M} {m : Nat} {u : Nat} {g : mS} {a1 : Int32} {a2 : Int32} {a3 : Int32} {r : mS}  (h : fM_addVersion u g a1 a2 a3 = some r) : nx_Ct l Γ 3 yX8_addVersion cX8_addVersion 7 none [.ref m, .int a1, .int a2, .int a3] (mW Γ M0 m g) (none, (mW Γ M0 m r)) :=
  nx_ct (out := fun r0 : mS => (none, (mW Γ M0 m r0))) [some (.ref m), some (.int a1), some (.int a2), some (.int a3), none, none, none] pn_RX8 h (Nat.le_of_ble_eq_true rfl) rfl (fun X Z _ => jM_addVersion  u g a1 a2 a3 X Z)
theorem dX8_leastStamp_0 : decode cX8_leastStamp 0 = .ok (.iconst (-1), 1) := by decide +kernel
theorem dX8_leastStamp_1 : decode cX8_leastStamp 1 = .ok (.istore_n 1, 1) := by decide +kernel
theorem dX8_leastStamp_2 : decode cX8_leastStamp 2 = .ok (.iconst 0, 1) := by decide +kernel
theorem dX8_leastStamp_3 : decode cX8_leastStamp 3 = .ok (.istore_n 2, 1) := by decide +kernel
theorem dX8_leastStamp_4 : decode cX8_leastStamp 4 = .ok (.iload_n 2, 1) := by decide +kernel
theorem dX8_leastStamp_5 : decode cX8_leastStamp 5 = .ok (.bipush 8, 2) := by decide +kernel
theorem dX8_leastStamp_7 : decode cX8_leastStamp 7 = .ok (.if_icmp .ge 43, 3) := by decide +kernel
theorem dX8_leastStamp_10 : decode cX8_leastStamp 10 = .ok (.aload_n 0, 1) := by decide +kernel
theorem dX8_leastStamp_11 : decode cX8_leastStamp 11 = .ok (.iload_n 2, 1) := by decide +kernel
theorem dX8_leastStamp_12 : decode cX8_leastStamp 12 = .ok (.invokevirtual 180, 3) := by decide +kernel
theorem dX8_leastStamp_15 : decode cX8_leastStamp 15 = .ok (.ifCond .eq 27, 3) := by decide +kernel
theorem dX8_leastStamp_18 : decode cX8_leastStamp 18 = .ok (.iload_n 1, 1) := by decide +kernel
theorem dX8_leastStamp_19 : decode cX8_leastStamp 19 = .ok (.iconst (-1), 1) := by decide +kernel
theorem dX8_leastStamp_20 : decode cX8_leastStamp 20 = .ok (.if_icmp .eq 13, 3) := by decide +kernel
theorem dX8_leastStamp_23 : decode cX8_leastStamp 23 = .ok (.aload_n 0, 1) := by decide +kernel
theorem dX8_leastStamp_24 : decode cX8_leastStamp 24 = .ok (.iload_n 2, 1) := by decide +kernel
theorem dX8_leastStamp_25 : decode cX8_leastStamp 25 = .ok (.iconst 1, 1) := by decide +kernel
theorem dX8_leastStamp_26 : decode cX8_leastStamp 26 = .ok (.invokevirtual 165, 3) := by decide +kernel
theorem dX8_leastStamp_29 : decode cX8_leastStamp 29 = .ok (.iload_n 1, 1) := by decide +kernel
theorem dX8_leastStamp_30 : decode cX8_leastStamp 30 = .ok (.if_icmp .ge 12, 3) := by decide +kernel
theorem dX8_leastStamp_33 : decode cX8_leastStamp 33 = .ok (.aload_n 0, 1) := by decide +kernel
theorem dX8_leastStamp_34 : decode cX8_leastStamp 34 = .ok (.iload_n 2, 1) := by decide +kernel
theorem dX8_leastStamp_35 : decode cX8_leastStamp 35 = .ok (.iconst 1, 1) := by decide +kernel
theorem dX8_leastStamp_36 : decode cX8_leastStamp 36 = .ok (.invokevirtual 165, 3) := by decide +kernel
theorem dX8_leastStamp_39 : decode cX8_leastStamp 39 = .ok (.goto 4, 3) := by decide +kernel
theorem dX8_leastStamp_42 : decode cX8_leastStamp 42 = .ok (.iload_n 1, 1) := by decide +kernel
theorem dX8_leastStamp_43 : decode cX8_leastStamp 43 = .ok (.istore_n 1, 1) := by decide +kernel
theorem dX8_leastStamp_44 : decode cX8_leastStamp 44 = .ok (.iinc 2 1, 3) := by decide +kernel
theorem dX8_leastStamp_47 : decode cX8_leastStamp 47 = .ok (.goto (-43), 3) := by decide +kernel
theorem dX8_leastStamp_50 : decode cX8_leastStamp 50 = .ok (.iload_n 1, 1) := by decide +kernel
theorem dX8_leastStamp_51 : decode cX8_leastStamp 51 = .ok (.ireturn, 1) := by decide +kernel
def fM_leastStamp_4 (u : Nat) (g : mS) (s1 : Int32 × Int32) : Option ((Int32 × Int32) ⊕ (Int32)) :=
  if (iz 8) ≤ s1.2 then
    some (.inr s1.1)
  else
    (fM_isOn u g s1.2).bind fun b2 =>
    (if b2 = true then
       if s1.1 = (iz (-1)) then
         (fM_of u g s1.2 (iz 1)).bind fun x3 =>
         some x3
       else
         (fM_of u g s1.2 (iz 1)).bind fun x4 =>
         if s1.1 ≤ x4 then
           some s1.1
         else
           (fM_of u g s1.2 (iz 1)).bind fun x5 =>
           some x5
     else
       some s1.1 : Option (Int32)).bind fun s6 =>
    some (.inl (s6, (s1.2 + iz 1)))
def fM_leastStamp (u : Nat) (g : mS) : Option (Int32) :=
  (nx_iter u (fM_leastStamp_4 u g) ((iz (-1)), (iz 0))).bind fun e7 =>
  some e7
set_option maxRecDepth 4000 in
theorem jM_leastStamp_4 {Γ : nx_G} {M0 : nx_M} {m : Nat} (u : Nat) (g : mS)   (X : nx_X) (Z : nx_Z) (s1 : Int32 × Int32) : nx_J Γ X (RX8, cX8_leastStamp, 3, (some .int), "leastStamp", 4) Z (Sum.elim (fun s1 : Int32 × Int32 => .inl (4, [some (.ref m), some (.int s1.1), some (.int s1.2)], [], (mW Γ M0 m g))) (fun e7 : Int32 => .inl (50, [some (.ref m), some (.int e7), none], [], (mW Γ M0 m g)))) (.inl (4, [some (.ref m), some (.int s1.1), some (.int s1.2)], [], (mW Γ M0 m g))) (fM_leastStamp_4 u g s1) := by
  unfold fM_leastStamp_4
  refine nx_iload_n rfl dX8_leastStamp_4 rfl ?_
  refine nx_bipush (by decide +kernel) dX8_leastStamp_5 rfl ?_
  refine nx_icmp_ge (t := 50) dX8_leastStamp_7 (by decide) rfl ?_ ?_
  · refine nx_weak (ls' := [some (.ref m), some (.int s1.1), none]) (nx_wk_s (nx_wk_s (nx_wk_n nx_wk_e))) ?_
    obtain ⟨_, _⟩ := s1
    exact nx_leaf rfl
  · refine nx_aload_n rfl dX8_leastStamp_10 rfl ?_
    refine nx_iload_n rfl dX8_leastStamp_11 rfl ?_
    refine nx_callVr [.int s1.2] (fun r => .int (bz r)) (fun _ => (mW Γ M0 m g)) cw_8_180 cv_X8_isOn (fun r e => cM_isOn X.2.1  e) mW_m rfl rfl (Nat.le_of_ble_eq_true rfl) (Nat.le_of_ble_eq_true rfl) dX8_leastStamp_12 rfl (fun b2 => ?_)
    refine nx_seq (C1 := fun s6 : Int32 => .inl (43, [some (.ref m), some (.int s1.1), some (.int s1.2)], [.int s6], (mW Γ M0 m g))) ?_ (fun s6 => ?_)
    · refine nx_ifz_eq (t := 42) dX8_leastStamp_15 (by decide) rfl ?_ ?_
      · refine nx_iload_n rfl dX8_leastStamp_42 rfl ?_
        obtain ⟨_, _⟩ := s1
        exact nx_leaf rfl
      · refine nx_iload_n rfl dX8_leastStamp_18 rfl ?_
        refine nx_iconst dX8_leastStamp_19 rfl ?_
        refine nx_icmp_eq (t := 33) dX8_leastStamp_20 (by decide) rfl ?_ ?_
        · refine nx_aload_n rfl dX8_leastStamp_33 rfl ?_
          refine nx_iload_n rfl dX8_leastStamp_34 rfl ?_
          refine nx_iconst dX8_leastStamp_35 rfl ?_
          refine nx_callVr [.int s1.2, .int (iz 1)] (fun r => .int r) (fun _ => (mW Γ M0 m g)) cw_8_165 cv_X8_of (fun r e => cM_of X.2.1  e) mW_m rfl rfl (Nat.le_of_ble_eq_true rfl) (Nat.le_of_ble_eq_true rfl) dX8_leastStamp_36 rfl (fun x3 => ?_)
          refine nx_goto (q := 43) dX8_leastStamp_39 (by decide) ?_
          obtain ⟨_, _⟩ := s1
          exact nx_leaf rfl
        · refine nx_aload_n rfl dX8_leastStamp_23 rfl ?_
          refine nx_iload_n rfl dX8_leastStamp_24 rfl ?_
          refine nx_iconst dX8_leastStamp_25 rfl ?_
          refine nx_callVr [.int s1.2, .int (iz 1)] (fun r => .int r) (fun _ => (mW Γ M0 m g)) cw_8_165 cv_X8_of (fun r e => cM_of X.2.1  e) mW_m rfl rfl (Nat.le_of_ble_eq_true rfl) (Nat.le_of_ble_eq_true rfl) dX8_leastStamp_26 rfl (fun x4 => ?_)
          refine nx_iload_n rfl dX8_leastStamp_29 rfl ?_
          refine nx_icmp_ge (t := 42) dX8_leastStamp_30 (by decide) rfl ?_ ?_
          · refine nx_iload_n rfl dX8_leastStamp_42 rfl ?_
            obtain ⟨_, _⟩ := s1
            exact nx_leaf rfl
          · refine nx_aload_n rfl dX8_leastStamp_33 rfl ?_
            refine nx_iload_n rfl dX8_leastStamp_34 rfl ?_
            refine nx_iconst dX8_leastStamp_35 rfl ?_
            refine nx_callVr [.int s1.2, .int (iz 1)] (fun r => .int r) (fun _ => (mW Γ M0 m g)) cw_8_165 cv_X8_of (fun r e => cM_of X.2.1  e) mW_m rfl rfl (Nat.le_of_ble_eq_true rfl) (Nat.le_of_ble_eq_true rfl) dX8_leastStamp_36 rfl (fun x5 => ?_)
            refine nx_goto (q := 43) dX8_leastStamp_39 (by decide) ?_
            obtain ⟨_, _⟩ := s1
            exact nx_leaf rfl
    refine nx_istore_n [some (.ref m), some (.int s6), some (.int s1.2)] dX8_leastStamp_43 rfl (Nat.le_of_ble_eq_true rfl) rfl rfl ?_
    refine nx_iinc [some (.ref m), some (.int s6), some (.int (s1.2 + iz 1))] dX8_leastStamp_44 rfl rfl (Nat.le_of_ble_eq_true rfl) rfl rfl ?_
    refine nx_goto (q := 4) dX8_leastStamp_47 (by decide) ?_
    obtain ⟨_, _⟩ := s1
    exact nx_leaf rfl
set_option maxRecDepth 4000 in
theorem jM_leastStamp {Γ : nx_G} {M0 : nx_M} {m : Nat} (u : Nat) (g : mS)   (X : nx_X) (Z : nx_Z) : nx_J Γ X (RX8, cX8_leastStamp, 3, (some .int), "leastStamp", 4) Z (fun r0 : Int32 => .inr (some (.int r0), (mW Γ M0 m g))) (.inl (0, [some (.ref m), none, none], [], (mW Γ M0 m g))) (fM_leastStamp u g) := by
  unfold fM_leastStamp
  refine nx_iconst dX8_leastStamp_0 rfl ?_
  refine nx_istore_n [some (.ref m), some (.int (iz (-1))), none] dX8_leastStamp_1 rfl (Nat.le_of_ble_eq_true rfl) rfl rfl ?_
  refine nx_iconst dX8_leastStamp_2 rfl ?_
  refine nx_istore_n [some (.ref m), some (.int (iz (-1))), some (.int (iz 0))] dX8_leastStamp_3 rfl (Nat.le_of_ble_eq_true rfl) rfl rfl ?_
  refine nx_seq (C1 := fun e7 : Int32 => .inl (50, [some (.ref m), some (.int e7), none], [], (mW Γ M0 m g))) (nx_loop (C1 := fun s1 : Int32 × Int32 => .inl (4, [some (.ref m), some (.int s1.1), some (.int s1.2)], [], (mW Γ M0 m g))) (fun s1 => jM_leastStamp_4  u g X Z s1) ((iz (-1)), (iz 0))) (fun e7 => ?_)
  refine nx_iload_n rfl dX8_leastStamp_50 rfl ?_
  exact nx_iret dX8_leastStamp_51 rfl rfl
theorem cM_leastStamp (l : Launch) {Γ : nx_G} {M0 : nx_M} {m : Nat} {u : Nat} {g : mS} {r : Int32}  (h : fM_leastStamp u g = some r) : nx_Ct l Γ 4 yX8_leastStamp cX8_leastStamp 3 (some .int) [.ref m] (mW Γ M0 m g) (some (.int r), (mW Γ M0 m g)) :=
  nx_ct (out := fun r0 : Int32 => (some (.int r0), (mW Γ M0 m g))) [some (.ref m), none, none] pn_RX8 h (Nat.le_of_ble_eq_true rfl) rfl (fun X Z _ => jM_leastStamp  u g X Z)
theorem dX8_floorThen_0 : decode cX8_floorThen 0 = .ok (.aload_n 0, 1) := by decide +kernel
theorem dX8_floorThen_1 : decode cX8_floorThen 1 = .ok (.invokevirtual 183, 3) := by decide +kernel
theorem dX8_floorThen_4 : decode cX8_floorThen 4 = .ok (.istore_n 1, 1) := by decide +kernel
theorem dX8_floorThen_5 : decode cX8_floorThen 5 = .ok (.aload_n 0, 1) := by decide +kernel
theorem dX8_floorThen_6 : decode cX8_floorThen 6 = .ok (.getfield 28, 3) := by decide +kernel
theorem dX8_floorThen_9 : decode cX8_floorThen 9 = .ok (.sipush 607, 3) := by decide +kernel
theorem dX8_floorThen_12 : decode cX8_floorThen 12 = .ok (.iaload, 1) := by decide +kernel
theorem dX8_floorThen_13 : decode cX8_floorThen 13 = .ok (.iload_n 1, 1) := by decide +kernel
theorem dX8_floorThen_14 : decode cX8_floorThen 14 = .ok (.iconst (-1), 1) := by decide +kernel
theorem dX8_floorThen_15 : decode cX8_floorThen 15 = .ok (.if_icmp .ne 14, 3) := by decide +kernel
theorem dX8_floorThen_18 : decode cX8_floorThen 18 = .ok (.aload_n 0, 1) := by decide +kernel
theorem dX8_floorThen_19 : decode cX8_floorThen 19 = .ok (.getfield 28, 3) := by decide +kernel
theorem dX8_floorThen_22 : decode cX8_floorThen 22 = .ok (.sipush 606, 3) := by decide +kernel
theorem dX8_floorThen_25 : decode cX8_floorThen 25 = .ok (.iaload, 1) := by decide +kernel
theorem dX8_floorThen_26 : decode cX8_floorThen 26 = .ok (.goto 4, 3) := by decide +kernel
theorem dX8_floorThen_29 : decode cX8_floorThen 29 = .ok (.iload_n 1, 1) := by decide +kernel
theorem dX8_floorThen_30 : decode cX8_floorThen 30 = .ok (.invokestatic 186, 3) := by decide +kernel
theorem dX8_floorThen_33 : decode cX8_floorThen 33 = .ok (.ireturn, 1) := by decide +kernel
def fM_floorThen (u : Nat) (g : mS) : Option (Int32) :=
  (fM_leastStamp u g).bind fun x1 =>
  (nx_rd (mlen 7) (g.1 7) (iz 607)).bind fun x2 =>
  (if x1 = (iz (-1)) then
     (nx_rd (mlen 7) (g.1 7) (iz 606)).bind fun x3 =>
     some x3
   else
     some x1 : Option (Int32)).bind fun s4 =>
  some (if x2 < s4 then s4 else x2)
set_option maxRecDepth 4000 in
theorem jM_floorThen {Γ : nx_G} {M0 : nx_M} {m : Nat} (u : Nat) (g : mS)   (X : nx_X) (Z : nx_Z) : nx_J Γ X (RX8, cX8_floorThen, 2, (some .int), "floorThen", 5) Z (fun r0 : Int32 => .inr (some (.int r0), (mW Γ M0 m g))) (.inl (0, [some (.ref m), none], [], (mW Γ M0 m g))) (fM_floorThen u g) := by
  unfold fM_floorThen
  refine nx_aload_n rfl dX8_floorThen_0 rfl ?_
  refine nx_callVr [] (fun r => .int r) (fun _ => (mW Γ M0 m g)) cw_8_183 cv_X8_leastStamp (fun r e => cM_leastStamp X.2.1  e) mW_m rfl rfl (Nat.le_of_ble_eq_true rfl) (Nat.le_of_ble_eq_true rfl) dX8_floorThen_1 rfl (fun x1 => ?_)
  refine nx_istore_n [some (.ref m), some (.int x1)] dX8_floorThen_4 rfl (Nat.le_of_ble_eq_true rfl) rfl rfl ?_
  refine nx_aload_n rfl dX8_floorThen_5 rfl ?_
  refine nx_getf fl_8_28 mW_m rfl dX8_floorThen_6 rfl ?_
  refine nx_sipush (by decide +kernel) dX8_floorThen_9 rfl ?_
  refine m_iald 7 ⟨Nat.le_of_ble_eq_true rfl, Nat.le_of_ble_eq_true rfl⟩ dX8_floorThen_12 rfl (fun x2 => ?_)
  refine nx_iload_n rfl dX8_floorThen_13 rfl ?_
  refine nx_iconst dX8_floorThen_14 rfl ?_
  refine nx_seq (C1 := fun s4 : Int32 => .inl (30, [some (.ref m), some (.int x1)], [.int s4, .int x2], (mW Γ M0 m g))) ?_ (fun s4 => ?_)
  · refine nx_icmp_ne (t := 29) dX8_floorThen_15 (by decide) rfl ?_ ?_
    · refine nx_iload_n rfl dX8_floorThen_29 rfl ?_
      exact nx_leaf rfl
    · refine nx_aload_n rfl dX8_floorThen_18 rfl ?_
      refine nx_getf fl_8_28 mW_m rfl dX8_floorThen_19 rfl ?_
      refine nx_sipush (by decide +kernel) dX8_floorThen_22 rfl ?_
      refine m_iald 7 ⟨Nat.le_of_ble_eq_true rfl, Nat.le_of_ble_eq_true rfl⟩ dX8_floorThen_25 rfl (fun x3 => ?_)
      refine nx_goto (q := 30) dX8_floorThen_26 (by decide) ?_
      exact nx_leaf rfl
  refine nx_max wd_1426 wd_685 wd_206 wd_686 (Nat.le_of_ble_eq_true rfl) (Nat.le_of_ble_eq_true rfl) dX8_floorThen_30 rfl ?_
  exact nx_iret dX8_floorThen_33 rfl rfl
theorem cM_floorThen (l : Launch) {Γ : nx_G} {M0 : nx_M} {m : Nat} {u : Nat} {g : mS} {r : Int32}  (h : fM_floorThen u g = some r) : nx_Ct l Γ 5 yX8_floorThen cX8_floorThen 2 (some .int) [.ref m] (mW Γ M0 m g) (some (.int r), (mW Γ M0 m g)) :=
  nx_ct (out := fun r0 : Int32 => (some (.int r0), (mW Γ M0 m g))) [some (.ref m), none] pn_RX8 h (Nat.le_of_ble_eq_true rfl) rfl (fun X Z _ => jM_floorThen  u g X Z)
theorem dX8_isSpare_0 : decode cX8_isSpare 0 = .ok (.aload_n 0, 1) := by decide +kernel
theorem dX8_isSpare_1 : decode cX8_isSpare 1 = .ok (.iload_n 1, 1) := by decide +kernel
theorem dX8_isSpare_2 : decode cX8_isSpare 2 = .ok (.iload_n 2, 1) := by decide +kernel
theorem dX8_isSpare_3 : decode cX8_isSpare 3 = .ok (.iconst 4, 1) := by decide +kernel
theorem dX8_isSpare_4 : decode cX8_isSpare 4 = .ok (.invokevirtual 174, 3) := by decide +kernel
theorem dX8_isSpare_7 : decode cX8_isSpare 7 = .ok (.iconst (-1), 1) := by decide +kernel
theorem dX8_isSpare_8 : decode cX8_isSpare 8 = .ok (.if_icmp .ne 14, 3) := by decide +kernel
theorem dX8_isSpare_11 : decode cX8_isSpare 11 = .ok (.aload_n 0, 1) := by decide +kernel
theorem dX8_isSpare_12 : decode cX8_isSpare 12 = .ok (.iload_n 1, 1) := by decide +kernel
theorem dX8_isSpare_13 : decode cX8_isSpare 13 = .ok (.iload_n 2, 1) := by decide +kernel
theorem dX8_isSpare_14 : decode cX8_isSpare 14 = .ok (.iconst 1, 1) := by decide +kernel
theorem dX8_isSpare_15 : decode cX8_isSpare 15 = .ok (.invokevirtual 174, 3) := by decide +kernel
theorem dX8_isSpare_18 : decode cX8_isSpare 18 = .ok (.iload_n 3, 1) := by decide +kernel
theorem dX8_isSpare_19 : decode cX8_isSpare 19 = .ok (.if_icmp .le 5, 3) := by decide +kernel
theorem dX8_isSpare_22 : decode cX8_isSpare 22 = .ok (.iconst 0, 1) := by decide +kernel
theorem dX8_isSpare_23 : decode cX8_isSpare 23 = .ok (.ireturn, 1) := by decide +kernel
theorem dX8_isSpare_24 : decode cX8_isSpare 24 = .ok (.iconst 0, 1) := by decide +kernel
theorem dX8_isSpare_25 : decode cX8_isSpare 25 = .ok (.istore 4, 2) := by decide +kernel
theorem dX8_isSpare_27 : decode cX8_isSpare 27 = .ok (.iload_n 2, 1) := by decide +kernel
theorem dX8_isSpare_28 : decode cX8_isSpare 28 = .ok (.iconst 1, 1) := by decide +kernel
theorem dX8_isSpare_29 : decode cX8_isSpare 29 = .ok (.iadd, 1) := by decide +kernel
theorem dX8_isSpare_30 : decode cX8_isSpare 30 = .ok (.istore 5, 2) := by decide +kernel
theorem dX8_isSpare_32 : decode cX8_isSpare 32 = .ok (.iload 5, 2) := by decide +kernel
theorem dX8_isSpare_34 : decode cX8_isSpare 34 = .ok (.aload_n 0, 1) := by decide +kernel
theorem dX8_isSpare_35 : decode cX8_isSpare 35 = .ok (.iload_n 1, 1) := by decide +kernel
theorem dX8_isSpare_36 : decode cX8_isSpare 36 = .ok (.invokevirtual 171, 3) := by decide +kernel
theorem dX8_isSpare_39 : decode cX8_isSpare 39 = .ok (.if_icmp .ge 45, 3) := by decide +kernel
theorem dX8_isSpare_42 : decode cX8_isSpare 42 = .ok (.iload 4, 2) := by decide +kernel
theorem dX8_isSpare_44 : decode cX8_isSpare 44 = .ok (.ifCond .ne 27, 3) := by decide +kernel
theorem dX8_isSpare_47 : decode cX8_isSpare 47 = .ok (.aload_n 0, 1) := by decide +kernel
theorem dX8_isSpare_48 : decode cX8_isSpare 48 = .ok (.iload_n 1, 1) := by decide +kernel
theorem dX8_isSpare_49 : decode cX8_isSpare 49 = .ok (.iload 5, 2) := by decide +kernel
theorem dX8_isSpare_51 : decode cX8_isSpare 51 = .ok (.iconst 4, 1) := by decide +kernel
theorem dX8_isSpare_52 : decode cX8_isSpare 52 = .ok (.invokevirtual 174, 3) := by decide +kernel
theorem dX8_isSpare_55 : decode cX8_isSpare 55 = .ok (.iconst (-1), 1) := by decide +kernel
theorem dX8_isSpare_56 : decode cX8_isSpare 56 = .ok (.if_icmp .ne 19, 3) := by decide +kernel
theorem dX8_isSpare_59 : decode cX8_isSpare 59 = .ok (.aload_n 0, 1) := by decide +kernel
theorem dX8_isSpare_60 : decode cX8_isSpare 60 = .ok (.iload_n 1, 1) := by decide +kernel
theorem dX8_isSpare_61 : decode cX8_isSpare 61 = .ok (.iload 5, 2) := by decide +kernel
theorem dX8_isSpare_63 : decode cX8_isSpare 63 = .ok (.iconst 1, 1) := by decide +kernel
theorem dX8_isSpare_64 : decode cX8_isSpare 64 = .ok (.invokevirtual 174, 3) := by decide +kernel
theorem dX8_isSpare_67 : decode cX8_isSpare 67 = .ok (.iload_n 3, 1) := by decide +kernel
theorem dX8_isSpare_68 : decode cX8_isSpare 68 = .ok (.if_icmp .gt 7, 3) := by decide +kernel
theorem dX8_isSpare_71 : decode cX8_isSpare 71 = .ok (.iconst 1, 1) := by decide +kernel
theorem dX8_isSpare_72 : decode cX8_isSpare 72 = .ok (.goto 4, 3) := by decide +kernel
theorem dX8_isSpare_75 : decode cX8_isSpare 75 = .ok (.iconst 0, 1) := by decide +kernel
theorem dX8_isSpare_76 : decode cX8_isSpare 76 = .ok (.istore 4, 2) := by decide +kernel
theorem dX8_isSpare_78 : decode cX8_isSpare 78 = .ok (.iinc 5 1, 3) := by decide +kernel
theorem dX8_isSpare_81 : decode cX8_isSpare 81 = .ok (.goto (-49), 3) := by decide +kernel
theorem dX8_isSpare_84 : decode cX8_isSpare 84 = .ok (.iload 4, 2) := by decide +kernel
theorem dX8_isSpare_86 : decode cX8_isSpare 86 = .ok (.ireturn, 1) := by decide +kernel
def fM_isSpare_32 (u : Nat) (g : mS) (a1 : Int32) (a3 : Int32) (s3 : Int32 × Int32) : Option ((Int32 × Int32) ⊕ (Int32)) :=
  (fM_many u g a1).bind fun x4 =>
  if x4 ≤ s3.2 then
    some (.inr s3.1)
  else
    (if s3.1 = iz 0 then
       (fM_its u g a1 s3.2 (iz 4)).bind fun x5 =>
       if x5 = (iz (-1)) then
         (fM_its u g a1 s3.2 (iz 1)).bind fun x6 =>
         if a3 < x6 then
           some (iz 0)
         else
           some (iz 1)
       else
         some (iz 0)
     else
       some (iz 1) : Option (Int32)).bind fun s7 =>
    some (.inl (s7, (s3.2 + iz 1)))
def fM_isSpare (u : Nat) (g : mS) (a1 : Int32) (a2 : Int32) (a3 : Int32) : Option (Bool) :=
  (fM_its u g a1 a2 (iz 4)).bind fun x1 =>
  if x1 = (iz (-1)) then
    (fM_its u g a1 a2 (iz 1)).bind fun x2 =>
    if x2 ≤ a3 then
      (nx_iter u (fM_isSpare_32 u g a1 a3) ((iz 0), (a2 + (iz 1)))).bind fun e8 =>
      (nx_tob e8).bind fun b9 =>
      some b9
    else
      some false
  else
    some false
set_option maxRecDepth 4000 in
theorem jM_isSpare_32 {Γ : nx_G} {M0 : nx_M} {m : Nat} (u : Nat) (g : mS) (a1 : Int32) (a2 : Int32) (a3 : Int32)   (X : nx_X) (Z : nx_Z) (s3 : Int32 × Int32) : nx_J Γ X (RX8, cX8_isSpare, 6, (some .boolean), "isSpare", 3) Z (Sum.elim (fun s3 : Int32 × Int32 => .inl (32, [some (.ref m), some (.int a1), some (.int a2), some (.int a3), some (.int s3.1), some (.int s3.2)], [], (mW Γ M0 m g))) (fun e8 : Int32 => .inl (84, [some (.ref m), some (.int a1), some (.int a2), some (.int a3), some (.int e8), none], [], (mW Γ M0 m g)))) (.inl (32, [some (.ref m), some (.int a1), some (.int a2), some (.int a3), some (.int s3.1), some (.int s3.2)], [], (mW Γ M0 m g))) (fM_isSpare_32 u g a1 a3 s3) := by
  unfold fM_isSpare_32
  refine nx_iload rfl dX8_isSpare_32 rfl ?_
  refine nx_aload_n rfl dX8_isSpare_34 rfl ?_
  refine nx_iload_n rfl dX8_isSpare_35 rfl ?_
  refine nx_callVr [.int a1] (fun r => .int r) (fun _ => (mW Γ M0 m g)) cw_8_171 cv_X8_many (fun r e => cM_many X.2.1  e) mW_m rfl rfl (Nat.le_of_ble_eq_true rfl) (Nat.le_of_ble_eq_true rfl) dX8_isSpare_36 rfl (fun x4 => ?_)
  refine nx_icmp_ge (t := 84) dX8_isSpare_39 (by decide) rfl ?_ ?_
  · refine nx_weak (ls' := [some (.ref m), some (.int a1), some (.int a2), some (.int a3), some (.int s3.1), none]) (nx_wk_s (nx_wk_s (nx_wk_s (nx_wk_s (nx_wk_s (nx_wk_n nx_wk_e)))))) ?_
    obtain ⟨_, _⟩ := s3
    exact nx_leaf rfl
  · refine nx_iload rfl dX8_isSpare_42 rfl ?_
    refine nx_seq (C1 := fun s7 : Int32 => .inl (76, [some (.ref m), some (.int a1), some (.int a2), some (.int a3), some (.int s3.1), some (.int s3.2)], [.int s7], (mW Γ M0 m g))) ?_ (fun s7 => ?_)
    · refine nx_if_ne (t := 71) dX8_isSpare_44 (by decide) rfl ?_ ?_
      · refine nx_iconst dX8_isSpare_71 rfl ?_
        refine nx_goto (q := 76) dX8_isSpare_72 (by decide) ?_
        obtain ⟨_, _⟩ := s3
        exact nx_leaf rfl
      · refine nx_aload_n rfl dX8_isSpare_47 rfl ?_
        refine nx_iload_n rfl dX8_isSpare_48 rfl ?_
        refine nx_iload rfl dX8_isSpare_49 rfl ?_
        refine nx_iconst dX8_isSpare_51 rfl ?_
        refine nx_callVr [.int a1, .int s3.2, .int (iz 4)] (fun r => .int r) (fun _ => (mW Γ M0 m g)) cw_8_174 cv_X8_its (fun r e => cM_its X.2.1  e) mW_m rfl rfl (Nat.le_of_ble_eq_true rfl) (Nat.le_of_ble_eq_true rfl) dX8_isSpare_52 rfl (fun x5 => ?_)
        refine nx_iconst dX8_isSpare_55 rfl ?_
        refine nx_icmp_ne (t := 75) dX8_isSpare_56 (by decide) rfl ?_ ?_
        · refine nx_iconst dX8_isSpare_75 rfl ?_
          obtain ⟨_, _⟩ := s3
          exact nx_leaf rfl
        · refine nx_aload_n rfl dX8_isSpare_59 rfl ?_
          refine nx_iload_n rfl dX8_isSpare_60 rfl ?_
          refine nx_iload rfl dX8_isSpare_61 rfl ?_
          refine nx_iconst dX8_isSpare_63 rfl ?_
          refine nx_callVr [.int a1, .int s3.2, .int (iz 1)] (fun r => .int r) (fun _ => (mW Γ M0 m g)) cw_8_174 cv_X8_its (fun r e => cM_its X.2.1  e) mW_m rfl rfl (Nat.le_of_ble_eq_true rfl) (Nat.le_of_ble_eq_true rfl) dX8_isSpare_64 rfl (fun x6 => ?_)
          refine nx_iload_n rfl dX8_isSpare_67 rfl ?_
          refine nx_icmp_gt (t := 75) dX8_isSpare_68 (by decide) rfl ?_ ?_
          · refine nx_iconst dX8_isSpare_75 rfl ?_
            obtain ⟨_, _⟩ := s3
            exact nx_leaf rfl
          · refine nx_iconst dX8_isSpare_71 rfl ?_
            refine nx_goto (q := 76) dX8_isSpare_72 (by decide) ?_
            obtain ⟨_, _⟩ := s3
            exact nx_leaf rfl
    refine nx_istore [some (.ref m), some (.int a1), some (.int a2), some (.int a3), some (.int s7), some (.int s3.2)] dX8_isSpare_76 rfl (Nat.le_of_ble_eq_true rfl) rfl rfl ?_
    refine nx_iinc [some (.ref m), some (.int a1), some (.int a2), some (.int a3), some (.int s7), some (.int (s3.2 + iz 1))] dX8_isSpare_78 rfl rfl (Nat.le_of_ble_eq_true rfl) rfl rfl ?_
    refine nx_goto (q := 32) dX8_isSpare_81 (by decide) ?_
    obtain ⟨_, _⟩ := s3
    exact nx_leaf rfl
set_option maxRecDepth 4000 in
theorem jM_isSpare {Γ : nx_G} {M0 : nx_M} {m : Nat} (u : Nat) (g : mS) (a1 : Int32) (a2 : Int32) (a3 : Int32)   (X : nx_X) (Z : nx_Z) : nx_J Γ X (RX8, cX8_isSpare, 6, (some .boolean), "isSpare", 3) Z (fun r0 : Bool => .inr (some (.int (bz r0)), (mW Γ M0 m g))) (.inl (0, [some (.ref m), some (.int a1), some (.int a2), some (.int a3), none, none], [], (mW Γ M0 m g))) (fM_isSpare u g a1 a2 a3) := by
  unfold fM_isSpare
  refine nx_aload_n rfl dX8_isSpare_0 rfl ?_
  refine nx_iload_n rfl dX8_isSpare_1 rfl ?_
  refine nx_iload_n rfl dX8_isSpare_2 rfl ?_
  refine nx_iconst dX8_isSpare_3 rfl ?_
  refine nx_callVr [.int a1, .int a2, .int (iz 4)] (fun r => .int r) (fun _ => (mW Γ M0 m g)) cw_8_174 cv_X8_its (fun r e => cM_its X.2.1  e) mW_m rfl rfl (Nat.le_of_ble_eq_true rfl) (Nat.le_of_ble_eq_true rfl) dX8_isSpare_4 rfl (fun x1 => ?_)
  refine nx_iconst dX8_isSpare_7 rfl ?_
  refine nx_icmp_ne (t := 22) dX8_isSpare_8 (by decide) rfl ?_ ?_
  · refine nx_iconst dX8_isSpare_22 rfl ?_
    exact nx_zret (b := false) dX8_isSpare_23 rfl rfl
  · refine nx_aload_n rfl dX8_isSpare_11 rfl ?_
    refine nx_iload_n rfl dX8_isSpare_12 rfl ?_
    refine nx_iload_n rfl dX8_isSpare_13 rfl ?_
    refine nx_iconst dX8_isSpare_14 rfl ?_
    refine nx_callVr [.int a1, .int a2, .int (iz 1)] (fun r => .int r) (fun _ => (mW Γ M0 m g)) cw_8_174 cv_X8_its (fun r e => cM_its X.2.1  e) mW_m rfl rfl (Nat.le_of_ble_eq_true rfl) (Nat.le_of_ble_eq_true rfl) dX8_isSpare_15 rfl (fun x2 => ?_)
    refine nx_iload_n rfl dX8_isSpare_18 rfl ?_
    refine nx_icmp_le (t := 24) dX8_isSpare_19 (by decide) rfl ?_ ?_
    · refine nx_iconst dX8_isSpare_24 rfl ?_
      refine nx_istore [some (.ref m), some (.int a1), some (.int a2), some (.int a3), some (.int (iz 0)), none] dX8_isSpare_25 rfl (Nat.le_of_ble_eq_true rfl) rfl rfl ?_
      refine nx_iload_n rfl dX8_isSpare_27 rfl ?_
      refine nx_iconst dX8_isSpare_28 rfl ?_
      refine nx_iadd dX8_isSpare_29 rfl ?_
      refine nx_istore [some (.ref m), some (.int a1), some (.int a2), some (.int a3), some (.int (iz 0)), some (.int (a2 + (iz 1)))] dX8_isSpare_30 rfl (Nat.le_of_ble_eq_true rfl) rfl rfl ?_
      refine nx_seq (C1 := fun e8 : Int32 => .inl (84, [some (.ref m), some (.int a1), some (.int a2), some (.int a3), some (.int e8), none], [], (mW Γ M0 m g))) (nx_loop (C1 := fun s3 : Int32 × Int32 => .inl (32, [some (.ref m), some (.int a1), some (.int a2), some (.int a3), some (.int s3.1), some (.int s3.2)], [], (mW Γ M0 m g))) (fun s3 => jM_isSpare_32  u g a1 a2 a3 X Z s3) ((iz 0), (a2 + (iz 1)))) (fun e8 => ?_)
      refine nx_iload rfl dX8_isSpare_84 rfl ?_
      refine nx_zretI (fun b9 => ?_)
      exact nx_zret dX8_isSpare_86 rfl rfl
    · refine nx_iconst dX8_isSpare_22 rfl ?_
      exact nx_zret (b := false) dX8_isSpare_23 rfl rfl
theorem cM_isSpare (l : Launch) {Γ : nx_G} {M0 : nx_M} {m : Nat} {u : Nat} {g : mS} {a1 : Int32} {a2 : Int32} {a3 : Int32} {r : Bool}  (h : fM_isSpare u g a1 a2 a3 = some r) : nx_Ct l Γ 3 yX8_isSpare cX8_isSpare 6 (some .boolean) [.ref m, .int a1, .int a2, .int a3] (mW Γ M0 m g) (some (.int (bz r)), (mW Γ M0 m g)) :=
  nx_ct (out := fun r0 : Bool => (some (.int (bz r0)), (mW Γ M0 m g))) [some (.ref m), some (.int a1), some (.int a2), some (.int a3), none, none] pn_RX8 h (Nat.le_of_ble_eq_true rfl) rfl (fun X Z _ => jM_isSpare  u g a1 a2 a3 X Z)
theorem dX8_spare_0 : decode cX8_spare 0 = .ok (.iconst 0, 1) := by decide +kernel
theorem dX8_spare_1 : decode cX8_spare 1 = .ok (.istore_n 1, 1) := by decide +kernel
theorem dX8_spare_2 : decode cX8_spare 2 = .ok (.iconst 0, 1) := by decide +kernel
theorem dX8_spare_3 : decode cX8_spare 3 = .ok (.istore_n 2, 1) := by decide +kernel
theorem dX8_spare_4 : decode cX8_spare 4 = .ok (.iload_n 2, 1) := by decide +kernel
theorem dX8_spare_5 : decode cX8_spare 5 = .ok (.aload_n 0, 1) := by decide +kernel
theorem dX8_spare_6 : decode cX8_spare 6 = .ok (.getfield 142, 3) := by decide +kernel
theorem dX8_spare_9 : decode cX8_spare 9 = .ok (.if_icmp .ge 47, 3) := by decide +kernel
theorem dX8_spare_12 : decode cX8_spare 12 = .ok (.iconst 0, 1) := by decide +kernel
theorem dX8_spare_13 : decode cX8_spare 13 = .ok (.istore_n 3, 1) := by decide +kernel
theorem dX8_spare_14 : decode cX8_spare 14 = .ok (.iload_n 3, 1) := by decide +kernel
theorem dX8_spare_15 : decode cX8_spare 15 = .ok (.aload_n 0, 1) := by decide +kernel
theorem dX8_spare_16 : decode cX8_spare 16 = .ok (.iload_n 2, 1) := by decide +kernel
theorem dX8_spare_17 : decode cX8_spare 17 = .ok (.invokevirtual 171, 3) := by decide +kernel
theorem dX8_spare_20 : decode cX8_spare 20 = .ok (.if_icmp .ge 30, 3) := by decide +kernel
theorem dX8_spare_23 : decode cX8_spare 23 = .ok (.iload_n 1, 1) := by decide +kernel
theorem dX8_spare_24 : decode cX8_spare 24 = .ok (.aload_n 0, 1) := by decide +kernel
theorem dX8_spare_25 : decode cX8_spare 25 = .ok (.iload_n 2, 1) := by decide +kernel
theorem dX8_spare_26 : decode cX8_spare 26 = .ok (.iload_n 3, 1) := by decide +kernel
theorem dX8_spare_27 : decode cX8_spare 27 = .ok (.aload_n 0, 1) := by decide +kernel
theorem dX8_spare_28 : decode cX8_spare 28 = .ok (.invokevirtual 191, 3) := by decide +kernel
theorem dX8_spare_31 : decode cX8_spare 31 = .ok (.invokevirtual 194, 3) := by decide +kernel
theorem dX8_spare_34 : decode cX8_spare 34 = .ok (.ifCond .eq 7, 3) := by decide +kernel
theorem dX8_spare_37 : decode cX8_spare 37 = .ok (.iconst 1, 1) := by decide +kernel
theorem dX8_spare_38 : decode cX8_spare 38 = .ok (.goto 4, 3) := by decide +kernel
theorem dX8_spare_41 : decode cX8_spare 41 = .ok (.iconst 0, 1) := by decide +kernel
theorem dX8_spare_42 : decode cX8_spare 42 = .ok (.iadd, 1) := by decide +kernel
theorem dX8_spare_43 : decode cX8_spare 43 = .ok (.istore_n 1, 1) := by decide +kernel
theorem dX8_spare_44 : decode cX8_spare 44 = .ok (.iinc 3 1, 3) := by decide +kernel
theorem dX8_spare_47 : decode cX8_spare 47 = .ok (.goto (-33), 3) := by decide +kernel
theorem dX8_spare_50 : decode cX8_spare 50 = .ok (.iinc 2 1, 3) := by decide +kernel
theorem dX8_spare_53 : decode cX8_spare 53 = .ok (.goto (-49), 3) := by decide +kernel
theorem dX8_spare_56 : decode cX8_spare 56 = .ok (.iload_n 1, 1) := by decide +kernel
theorem dX8_spare_57 : decode cX8_spare 57 = .ok (.ireturn, 1) := by decide +kernel
def fM_spare_14 (u : Nat) (g : mS) (s1 : Int32 × Int32) (s2 : Int32 × Int32) : Option ((Int32 × Int32) ⊕ (Int32)) :=
  (fM_many u g s1.2).bind fun x3 =>
  if x3 ≤ s2.2 then
    some (.inr s2.1)
  else
    (fM_floorThen u g).bind fun x4 =>
    (fM_isSpare u g s1.2 s2.2 x4).bind fun b5 =>
    (if b5 = true then
       some (iz 1)
     else
       some (iz 0) : Option (Int32)).bind fun s6 =>
    some (.inl ((s2.1 + s6), (s2.2 + iz 1)))
def fM_spare_4 (u : Nat) (g : mS) (s1 : Int32 × Int32) : Option ((Int32 × Int32) ⊕ (Int32)) :=
  if (g.1 0 9) ≤ s1.2 then
    some (.inr s1.1)
  else
    (nx_iter u (fM_spare_14 u g s1) (s1.1, (iz 0))).bind fun e7 =>
    some (.inl (e7, (s1.2 + iz 1)))
def fM_spare (u : Nat) (g : mS) : Option (Int32) :=
  (nx_iter u (fM_spare_4 u g) ((iz 0), (iz 0))).bind fun e8 =>
  some e8
set_option maxRecDepth 4000 in
theorem jM_spare_14 {Γ : nx_G} {M0 : nx_M} {m : Nat} (u : Nat) (g : mS) (s1 : Int32 × Int32)   (X : nx_X) (Z : nx_Z) (s2 : Int32 × Int32) : nx_J Γ X (RX8, cX8_spare, 4, (some .int), "spare", 6) Z (Sum.elim (fun s2 : Int32 × Int32 => .inl (14, [some (.ref m), some (.int s2.1), some (.int s1.2), some (.int s2.2)], [], (mW Γ M0 m g))) (fun e7 : Int32 => .inl (50, [some (.ref m), some (.int e7), some (.int s1.2), none], [], (mW Γ M0 m g)))) (.inl (14, [some (.ref m), some (.int s2.1), some (.int s1.2), some (.int s2.2)], [], (mW Γ M0 m g))) (fM_spare_14 u g s1 s2) := by
  unfold fM_spare_14
  refine nx_iload_n rfl dX8_spare_14 rfl ?_
  refine nx_aload_n rfl dX8_spare_15 rfl ?_
  refine nx_iload_n rfl dX8_spare_16 rfl ?_
  refine nx_callVr [.int s1.2] (fun r => .int r) (fun _ => (mW Γ M0 m g)) cw_8_171 cv_X8_many (fun r e => cM_many X.2.1  e) mW_m rfl rfl (Nat.le_of_ble_eq_true rfl) (Nat.le_of_ble_eq_true rfl) dX8_spare_17 rfl (fun x3 => ?_)
  refine nx_icmp_ge (t := 50) dX8_spare_20 (by decide) rfl ?_ ?_
  · refine nx_weak (ls' := [some (.ref m), some (.int s2.1), some (.int s1.2), none]) (nx_wk_s (nx_wk_s (nx_wk_s (nx_wk_n nx_wk_e)))) ?_
    obtain ⟨_, _⟩ := s1
    obtain ⟨_, _⟩ := s2
    exact nx_leaf rfl
  · refine nx_iload_n rfl dX8_spare_23 rfl ?_
    refine nx_aload_n rfl dX8_spare_24 rfl ?_
    refine nx_iload_n rfl dX8_spare_25 rfl ?_
    refine nx_iload_n rfl dX8_spare_26 rfl ?_
    refine nx_aload_n rfl dX8_spare_27 rfl ?_
    refine nx_callVr [] (fun r => .int r) (fun _ => (mW Γ M0 m g)) cw_8_191 cv_X8_floorThen (fun r e => cM_floorThen X.2.1  e) mW_m rfl rfl (Nat.le_of_ble_eq_true rfl) (Nat.le_of_ble_eq_true rfl) dX8_spare_28 rfl (fun x4 => ?_)
    refine nx_callVr [.int s1.2, .int s2.2, .int x4] (fun r => .int (bz r)) (fun _ => (mW Γ M0 m g)) cw_8_194 cv_X8_isSpare (fun r e => cM_isSpare X.2.1  e) mW_m rfl rfl (Nat.le_of_ble_eq_true rfl) (Nat.le_of_ble_eq_true rfl) dX8_spare_31 rfl (fun b5 => ?_)
    refine nx_seq (C1 := fun s6 : Int32 => .inl (42, [some (.ref m), some (.int s2.1), some (.int s1.2), some (.int s2.2)], [.int s6, .int s2.1], (mW Γ M0 m g))) ?_ (fun s6 => ?_)
    · refine nx_ifz_eq (t := 41) dX8_spare_34 (by decide) rfl ?_ ?_
      · refine nx_iconst dX8_spare_41 rfl ?_
        obtain ⟨_, _⟩ := s1
        obtain ⟨_, _⟩ := s2
        exact nx_leaf rfl
      · refine nx_iconst dX8_spare_37 rfl ?_
        refine nx_goto (q := 42) dX8_spare_38 (by decide) ?_
        obtain ⟨_, _⟩ := s1
        obtain ⟨_, _⟩ := s2
        exact nx_leaf rfl
    refine nx_iadd dX8_spare_42 rfl ?_
    refine nx_istore_n [some (.ref m), some (.int (s2.1 + s6)), some (.int s1.2), some (.int s2.2)] dX8_spare_43 rfl (Nat.le_of_ble_eq_true rfl) rfl rfl ?_
    refine nx_iinc [some (.ref m), some (.int (s2.1 + s6)), some (.int s1.2), some (.int (s2.2 + iz 1))] dX8_spare_44 rfl rfl (Nat.le_of_ble_eq_true rfl) rfl rfl ?_
    refine nx_goto (q := 14) dX8_spare_47 (by decide) ?_
    obtain ⟨_, _⟩ := s1
    obtain ⟨_, _⟩ := s2
    exact nx_leaf rfl
set_option maxRecDepth 4000 in
theorem jM_spare_4 {Γ : nx_G} {M0 : nx_M} {m : Nat} (u : Nat) (g : mS)   (X : nx_X) (Z : nx_Z) (s1 : Int32 × Int32) : nx_J Γ X (RX8, cX8_spare, 4, (some .int), "spare", 6) Z (Sum.elim (fun s1 : Int32 × Int32 => .inl (4, [some (.ref m), some (.int s1.1), some (.int s1.2), none], [], (mW Γ M0 m g))) (fun e8 : Int32 => .inl (56, [some (.ref m), some (.int e8), none, none], [], (mW Γ M0 m g)))) (.inl (4, [some (.ref m), some (.int s1.1), some (.int s1.2), none], [], (mW Γ M0 m g))) (fM_spare_4 u g s1) := by
  unfold fM_spare_4
  refine nx_iload_n rfl dX8_spare_4 rfl ?_
  refine nx_aload_n rfl dX8_spare_5 rfl ?_
  refine nx_getf fl_8_142 mW_m rfl dX8_spare_6 rfl ?_
  refine nx_icmp_ge (t := 56) dX8_spare_9 (by decide) rfl ?_ ?_
  · refine nx_weak (ls' := [some (.ref m), some (.int s1.1), none, none]) (nx_wk_s (nx_wk_s (nx_wk_n (nx_wk_n nx_wk_e)))) ?_
    obtain ⟨_, _⟩ := s1
    exact nx_leaf rfl
  · refine nx_iconst dX8_spare_12 rfl ?_
    refine nx_istore_n [some (.ref m), some (.int s1.1), some (.int s1.2), some (.int (iz 0))] dX8_spare_13 rfl (Nat.le_of_ble_eq_true rfl) rfl rfl ?_
    refine nx_seq (C1 := fun e7 : Int32 => .inl (50, [some (.ref m), some (.int e7), some (.int s1.2), none], [], (mW Γ M0 m g))) (nx_loop (C1 := fun s2 : Int32 × Int32 => .inl (14, [some (.ref m), some (.int s2.1), some (.int s1.2), some (.int s2.2)], [], (mW Γ M0 m g))) (fun s2 => jM_spare_14  u g s1 X Z s2) (s1.1, (iz 0))) (fun e7 => ?_)
    refine nx_iinc [some (.ref m), some (.int e7), some (.int (s1.2 + iz 1)), none] dX8_spare_50 rfl rfl (Nat.le_of_ble_eq_true rfl) rfl rfl ?_
    refine nx_goto (q := 4) dX8_spare_53 (by decide) ?_
    obtain ⟨_, _⟩ := s1
    exact nx_leaf rfl
set_option maxRecDepth 4000 in
theorem jM_spare {Γ : nx_G} {M0 : nx_M} {m : Nat} (u : Nat) (g : mS)   (X : nx_X) (Z : nx_Z) : nx_J Γ X (RX8, cX8_spare, 4, (some .int), "spare", 6) Z (fun r0 : Int32 => .inr (some (.int r0), (mW Γ M0 m g))) (.inl (0, [some (.ref m), none, none, none], [], (mW Γ M0 m g))) (fM_spare u g) := by
  unfold fM_spare
  refine nx_iconst dX8_spare_0 rfl ?_
  refine nx_istore_n [some (.ref m), some (.int (iz 0)), none, none] dX8_spare_1 rfl (Nat.le_of_ble_eq_true rfl) rfl rfl ?_
  refine nx_iconst dX8_spare_2 rfl ?_
  refine nx_istore_n [some (.ref m), some (.int (iz 0)), some (.int (iz 0)), none] dX8_spare_3 rfl (Nat.le_of_ble_eq_true rfl) rfl rfl ?_
  refine nx_seq (C1 := fun e8 : Int32 => .inl (56, [some (.ref m), some (.int e8), none, none], [], (mW Γ M0 m g))) (nx_loop (C1 := fun s1 : Int32 × Int32 => .inl (4, [some (.ref m), some (.int s1.1), some (.int s1.2), none], [], (mW Γ M0 m g))) (fun s1 => jM_spare_4  u g X Z s1) ((iz 0), (iz 0))) (fun e8 => ?_)
  refine nx_iload_n rfl dX8_spare_56 rfl ?_
  exact nx_iret dX8_spare_57 rfl rfl
theorem cM_spare (l : Launch) {Γ : nx_G} {M0 : nx_M} {m : Nat} {u : Nat} {g : mS} {r : Int32}  (h : fM_spare u g = some r) : nx_Ct l Γ 6 yX8_spare cX8_spare 4 (some .int) [.ref m] (mW Γ M0 m g) (some (.int r), (mW Γ M0 m g)) :=
  nx_ct (out := fun r0 : Int32 => (some (.int r0), (mW Γ M0 m g))) [some (.ref m), none, none, none] pn_RX8 h (Nat.le_of_ble_eq_true rfl) rfl (fun X Z _ => jM_spare  u g X Z)
