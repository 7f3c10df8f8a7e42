theorem dX8_undo_0 : decode cX8_undo 0 = .ok (.aload_n 0, 1) := by decide +kernel
theorem dX8_undo_1 : decode cX8_undo 1 = .ok (.getfield 145, 3) := by decide +kernel
theorem dX8_undo_4 : decode cX8_undo 4 = .ok (.ifCond .ne 5, 3) := by decide +kernel
theorem dX8_undo_7 : decode cX8_undo 7 = .ok (.iconst (-1), 1) := by decide +kernel
theorem dX8_undo_8 : decode cX8_undo 8 = .ok (.ireturn, 1) := by decide +kernel
theorem dX8_undo_9 : decode cX8_undo 9 = .ok (.aload_n 0, 1) := by decide +kernel
theorem dX8_undo_10 : decode cX8_undo 10 = .ok (.dup, 1) := by decide +kernel
theorem dX8_undo_11 : decode cX8_undo 11 = .ok (.getfield 145, 3) := by decide +kernel
theorem dX8_undo_14 : decode cX8_undo 14 = .ok (.iconst 1, 1) := by decide +kernel
theorem dX8_undo_15 : decode cX8_undo 15 = .ok (.isub, 1) := by decide +kernel
theorem dX8_undo_16 : decode cX8_undo 16 = .ok (.putfield 145, 3) := by decide +kernel
theorem dX8_undo_19 : decode cX8_undo 19 = .ok (.iconst 0, 1) := by decide +kernel
theorem dX8_undo_20 : decode cX8_undo 20 = .ok (.istore_n 1, 1) := by decide +kernel
theorem dX8_undo_21 : decode cX8_undo 21 = .ok (.iload_n 1, 1) := by decide +kernel
theorem dX8_undo_22 : decode cX8_undo 22 = .ok (.sipush 820, 3) := by decide +kernel
theorem dX8_undo_25 : decode cX8_undo 25 = .ok (.if_icmp .ge 30, 3) := by decide +kernel
theorem dX8_undo_28 : decode cX8_undo 28 = .ok (.aload_n 0, 1) := by decide +kernel
theorem dX8_undo_29 : decode cX8_undo 29 = .ok (.getfield 28, 3) := by decide +kernel
theorem dX8_undo_32 : decode cX8_undo 32 = .ok (.iload_n 1, 1) := by decide +kernel
theorem dX8_undo_33 : decode cX8_undo 33 = .ok (.aload_n 0, 1) := by decide +kernel
theorem dX8_undo_34 : decode cX8_undo 34 = .ok (.getfield 38, 3) := by decide +kernel
theorem dX8_undo_37 : decode cX8_undo 37 = .ok (.sipush 820, 3) := by decide +kernel
theorem dX8_undo_40 : decode cX8_undo 40 = .ok (.aload_n 0, 1) := by decide +kernel
theorem dX8_undo_41 : decode cX8_undo 41 = .ok (.getfield 145, 3) := by decide +kernel
theorem dX8_undo_44 : decode cX8_undo 44 = .ok (.imul, 1) := by decide +kernel
theorem dX8_undo_45 : decode cX8_undo 45 = .ok (.iload_n 1, 1) := by decide +kernel
theorem dX8_undo_46 : decode cX8_undo 46 = .ok (.iadd, 1) := by decide +kernel
theorem dX8_undo_47 : decode cX8_undo 47 = .ok (.iaload, 1) := by decide +kernel
theorem dX8_undo_48 : decode cX8_undo 48 = .ok (.iastore, 1) := by decide +kernel
theorem dX8_undo_49 : decode cX8_undo 49 = .ok (.iinc 1 1, 3) := by decide +kernel
theorem dX8_undo_52 : decode cX8_undo 52 = .ok (.goto (-31), 3) := by decide +kernel
theorem dX8_undo_55 : decode cX8_undo 55 = .ok (.aload_n 0, 1) := by decide +kernel
theorem dX8_undo_56 : decode cX8_undo 56 = .ok (.getfield 145, 3) := by decide +kernel
theorem dX8_undo_59 : decode cX8_undo 59 = .ok (.ireturn, 1) := by decide +kernel
def fM_undo_21  (s2 : Int32 × mS) : Option ((Int32 × mS) ⊕ (mS)) :=
  if (iz 820) ≤ s2.1 then
    some (.inr s2.2)
  else
    (nx_rd (mlen 10) (s2.2.1 10) (((iz 820) * (s2.2.1 0 19)) + s2.1)).bind fun x3 =>
    (mWr s2.2 7 s2.1 x3).bind fun g4 =>
    some (.inl ((s2.1 + iz 1), g4))
def fM_undo (u : Nat) (g : mS) : Option (Int32 × mS) :=
  if (g.1 0 19) = iz 0 then
    some ((iz (-1)), g)
  else
    (some (mFs g 19 ((g.1 0 19) - (iz 1)))).bind fun g1 =>
    (nx_iter u (fM_undo_21) ((iz 0), g1)).bind fun e5 =>
    some ((e5.1 0 19), e5)
set_option maxRecDepth 4000 in
theorem jM_undo_21 {Γ : nx_G} {M0 : nx_M} {m : Nat}    (X : nx_X) (Z : nx_Z) (s2 : Int32 × mS) : nx_J Γ X (RX8, cX8_undo, 2, (some .int), "undo", 1) Z (Sum.elim (fun s2 : Int32 × mS => .inl (21, [some (.ref m), some (.int s2.1)], [], (mW Γ M0 m s2.2))) (fun e5 : mS => .inl (55, [some (.ref m), none], [], (mW Γ M0 m e5)))) (.inl (21, [some (.ref m), some (.int s2.1)], [], (mW Γ M0 m s2.2))) (fM_undo_21 s2) := by
  unfold fM_undo_21
  refine nx_iload_n rfl dX8_undo_21 rfl ?_
  refine nx_sipush (by decide +kernel) dX8_undo_22 rfl ?_
  refine nx_icmp_ge (t := 55) dX8_undo_25 (by decide) rfl ?_ ?_
  · refine nx_weak (ls' := [some (.ref m), none]) (nx_wk_s (nx_wk_n nx_wk_e)) ?_
    obtain ⟨_, _⟩ := s2
    exact nx_leaf rfl
  · refine nx_aload_n rfl dX8_undo_28 rfl ?_
    refine nx_getf fl_8_28 mW_m rfl dX8_undo_29 rfl ?_
    refine nx_iload_n rfl dX8_undo_32 rfl ?_
    refine nx_aload_n rfl dX8_undo_33 rfl ?_
    refine nx_getf fl_8_38 mW_m rfl dX8_undo_34 rfl ?_
    refine nx_sipush (by decide +kernel) dX8_undo_37 rfl ?_
    refine nx_aload_n rfl dX8_undo_40 rfl ?_
    refine nx_getf fl_8_145 mW_m rfl dX8_undo_41 rfl ?_
    refine nx_imul dX8_undo_44 rfl ?_
    refine nx_iload_n rfl dX8_undo_45 rfl ?_
    refine nx_iadd dX8_undo_46 rfl ?_
    refine m_iald 10 ⟨Nat.le_of_ble_eq_true rfl, Nat.le_of_ble_eq_true rfl⟩ dX8_undo_47 rfl (fun x3 => ?_)
    refine m_iast 7 ⟨Nat.le_of_ble_eq_true rfl, Nat.le_of_ble_eq_true rfl⟩ dX8_undo_48 rfl (fun g4 => ?_)
    refine nx_iinc [some (.ref m), some (.int (s2.1 + iz 1))] dX8_undo_49 rfl rfl (Nat.le_of_ble_eq_true rfl) rfl rfl ?_
    refine nx_goto (q := 21) dX8_undo_52 (by decide) ?_
    obtain ⟨_, _⟩ := s2
    exact nx_leaf rfl
set_option maxRecDepth 4000 in
theorem jM_undo {Γ : nx_G} {M0 : nx_M} {m : Nat} (u : Nat) (g : mS)   (X : nx_X) (Z : nx_Z) : nx_J Γ X (RX8, cX8_undo, 2, (some .int), "undo", 1) Z (fun r0 : Int32 × mS => .inr (some (.int r0.1), (mW Γ M0 m r0.2))) (.inl (0, [some (.ref m), none], [], (mW Γ M0 m g))) (fM_undo u g) := by
  unfold fM_undo
  refine nx_aload_n rfl dX8_undo_0 rfl ?_
  refine nx_getf fl_8_145 mW_m rfl dX8_undo_1 rfl ?_
  refine nx_if_ne (t := 9) dX8_undo_4 (by decide) rfl ?_ ?_
  · refine nx_aload_n rfl dX8_undo_9 rfl ?_
    refine nx_dup rfl dX8_undo_10 rfl ?_
    refine nx_getf fl_8_145 mW_m rfl dX8_undo_11 rfl ?_
    refine nx_iconst dX8_undo_14 rfl ?_
    refine nx_isub dX8_undo_15 rfl ?_
    refine m_put fl_8_145 ft_8_19 rfl rfl (Nat.le_of_ble_eq_true rfl) rfl dX8_undo_16 rfl (fun g1 => ?_)
    refine nx_iconst dX8_undo_19 rfl ?_
    refine nx_istore_n [some (.ref m), some (.int (iz 0))] dX8_undo_20 rfl (Nat.le_of_ble_eq_true rfl) rfl rfl ?_
    refine nx_seq (C1 := fun e5 : mS => .inl (55, [some (.ref m), none], [], (mW Γ M0 m e5))) (nx_loop (C1 := fun s2 : Int32 × mS => .inl (21, [some (.ref m), some (.int s2.1)], [], (mW Γ M0 m s2.2))) (fun s2 => jM_undo_21  X Z s2) ((iz 0), g1)) (fun e5 => ?_)
    refine nx_aload_n rfl dX8_undo_55 rfl ?_
    refine nx_getf fl_8_145 mW_m rfl dX8_undo_56 rfl ?_
    exact nx_iret dX8_undo_59 rfl rfl
  · refine nx_iconst dX8_undo_7 rfl ?_
    exact nx_iret dX8_undo_8 rfl rfl
theorem cM_undo (l : Launch) {Γ : nx_G} {M0 : nx_M} {m : Nat} {u : Nat} {g : mS} {r : Int32 × mS}  (h : fM_undo u g = some r) : nx_Ct l Γ 1 yX8_undo cX8_undo 2 (some .int) [.ref m] (mW Γ M0 m g) (some (.int r.1), (mW Γ M0 m r.2)) :=
  nx_ct (out := fun r0 : Int32 × mS => (some (.int r0.1), (mW Γ M0 m r0.2))) [some (.ref m), none] pn_RX8 h (Nat.le_of_ble_eq_true rfl) rfl (fun X Z _ => jM_undo  u g X Z)
theorem dX8_log_0 : decode cX8_log 0 = .ok (.iload_n 1, 1) := by decide +kernel
theorem dX8_log_1 : decode cX8_log 1 = .ok (.iconst 0, 1) := by decide +kernel
theorem dX8_log_2 : decode cX8_log 2 = .ok (.aload_n 0, 1) := by decide +kernel
theorem dX8_log_3 : decode cX8_log 3 = .ok (.getfield 28, 3) := by decide +kernel
theorem dX8_log_6 : decode cX8_log 6 = .ok (.sipush 639, 3) := by decide +kernel
theorem dX8_log_9 : decode cX8_log 9 = .ok (.iaload, 1) := by decide +kernel
theorem dX8_log_10 : decode cX8_log 10 = .ok (.iconst 1, 1) := by decide +kernel
theorem dX8_log_11 : decode cX8_log 11 = .ok (.isub, 1) := by decide +kernel
theorem dX8_log_12 : decode cX8_log 12 = .ok (.invokestatic 61, 3) := by decide +kernel
theorem dX8_log_15 : decode cX8_log 15 = .ok (.ifCond .eq 40, 3) := by decide +kernel
theorem dX8_log_18 : decode cX8_log 18 = .ok (.iload_n 2, 1) := by decide +kernel
theorem dX8_log_19 : decode cX8_log 19 = .ok (.iconst 0, 1) := by decide +kernel
theorem dX8_log_20 : decode cX8_log 20 = .ok (.iconst 2, 1) := by decide +kernel
theorem dX8_log_21 : decode cX8_log 21 = .ok (.invokestatic 61, 3) := by decide +kernel
theorem dX8_log_24 : decode cX8_log 24 = .ok (.ifCond .eq 31, 3) := by decide +kernel
theorem dX8_log_27 : decode cX8_log 27 = .ok (.aload_n 0, 1) := by decide +kernel
theorem dX8_log_28 : decode cX8_log 28 = .ok (.getfield 28, 3) := by decide +kernel
theorem dX8_log_31 : decode cX8_log 31 = .ok (.sipush 640, 3) := by decide +kernel
theorem dX8_log_34 : decode cX8_log 34 = .ok (.iconst 3, 1) := by decide +kernel
theorem dX8_log_35 : decode cX8_log 35 = .ok (.aload_n 0, 1) := by decide +kernel
theorem dX8_log_36 : decode cX8_log 36 = .ok (.getfield 28, 3) := by decide +kernel
theorem dX8_log_39 : decode cX8_log 39 = .ok (.sipush 639, 3) := by decide +kernel
theorem dX8_log_42 : decode cX8_log 42 = .ok (.iaload, 1) := by decide +kernel
theorem dX8_log_43 : decode cX8_log 43 = .ok (.iconst 1, 1) := by decide +kernel
theorem dX8_log_44 : decode cX8_log 44 = .ok (.isub, 1) := by decide +kernel
theorem dX8_log_45 : decode cX8_log 45 = .ok (.iload_n 1, 1) := by decide +kernel
theorem dX8_log_46 : decode cX8_log 46 = .ok (.isub, 1) := by decide +kernel
theorem dX8_log_47 : decode cX8_log 47 = .ok (.imul, 1) := by decide +kernel
theorem dX8_log_48 : decode cX8_log 48 = .ok (.iadd, 1) := by decide +kernel
theorem dX8_log_49 : decode cX8_log 49 = .ok (.iload_n 2, 1) := by decide +kernel
theorem dX8_log_50 : decode cX8_log 50 = .ok (.iadd, 1) := by decide +kernel
theorem dX8_log_51 : decode cX8_log 51 = .ok (.iaload, 1) := by decide +kernel
theorem dX8_log_52 : decode cX8_log 52 = .ok (.goto 6, 3) := by decide +kernel
theorem dX8_log_55 : decode cX8_log 55 = .ok (.ldc_w 336, 3) := by decide +kernel
theorem dX8_log_58 : decode cX8_log 58 = .ok (.ireturn, 1) := by decide +kernel
def fM_log (u : Nat) (g : mS) (a1 : Int32) (a2 : Int32) : Option (Int32) :=
  (nx_rd (mlen 7) (g.1 7) (iz 639)).bind fun x1 =>
  (fM_in u a1 (iz 0) (x1 - (iz 1))).bind fun b2 =>
  if b2 = true then
    (fM_in u a2 (iz 0) (iz 2)).bind fun b3 =>
    if b3 = true then
      (nx_rd (mlen 7) (g.1 7) (iz 639)).bind fun x4 =>
      (nx_rd (mlen 7) (g.1 7) (((iz 640) + ((iz 3) * ((x4 - (iz 1)) - a1))) + a2)).bind fun x5 =>
      some x5
    else
      some ((-1000000) : Int32)
  else
    some ((-1000000) : Int32)
set_option maxRecDepth 4000 in
theorem jM_log {Γ : nx_G} {M0 : nx_M} {m : Nat} (u : Nat) (g : mS) (a1 : Int32) (a2 : Int32)   (X : nx_X) (Z : nx_Z) : nx_J Γ X (RX8, cX8_log, 3, (some .int), "log", 2) Z (fun r0 : Int32 => .inr (some (.int r0), (mW Γ M0 m g))) (.inl (0, [some (.ref m), some (.int a1), some (.int a2)], [], (mW Γ M0 m g))) (fM_log u g a1 a2) := by
  unfold fM_log
  refine nx_iload_n rfl dX8_log_0 rfl ?_
  refine nx_iconst dX8_log_1 rfl ?_
  refine nx_aload_n rfl dX8_log_2 rfl ?_
  refine nx_getf fl_8_28 mW_m rfl dX8_log_3 rfl ?_
  refine nx_sipush (by decide +kernel) dX8_log_6 rfl ?_
  refine m_iald 7 ⟨Nat.le_of_ble_eq_true rfl, Nat.le_of_ble_eq_true rfl⟩ dX8_log_9 rfl (fun x1 => ?_)
  refine nx_iconst dX8_log_10 rfl ?_
  refine nx_isub dX8_log_11 rfl ?_
  refine nx_callSr [.int a1, .int (iz 0), .int (x1 - (iz 1))] (fun r => .int (bz r)) (fun _ => (mW Γ M0 m g)) cw_8_61 wd_1243 (fun r e => cM_in X.2.1  e) rfl rfl (Nat.le_of_ble_eq_true rfl) (Nat.le_of_ble_eq_true rfl) dX8_log_12 rfl (fun b2 => ?_)
  refine nx_ifz_eq (t := 55) dX8_log_15 (by decide) rfl ?_ ?_
  · refine nx_ldcw wd_1580 dX8_log_55 rfl ?_
    exact nx_iret dX8_log_58 rfl rfl
  · refine nx_iload_n rfl dX8_log_18 rfl ?_
    refine nx_iconst dX8_log_19 rfl ?_
    refine nx_iconst dX8_log_20 rfl ?_
    refine nx_callSr [.int a2, .int (iz 0), .int (iz 2)] (fun r => .int (bz r)) (fun _ => (mW Γ M0 m g)) cw_8_61 wd_1243 (fun r e => cM_in X.2.1  e) rfl rfl (Nat.le_of_ble_eq_true rfl) (Nat.le_of_ble_eq_true rfl) dX8_log_21 rfl (fun b3 => ?_)
    refine nx_ifz_eq (t := 55) dX8_log_24 (by decide) rfl ?_ ?_
    · refine nx_ldcw wd_1580 dX8_log_55 rfl ?_
      exact nx_iret dX8_log_58 rfl rfl
    · refine nx_aload_n rfl dX8_log_27 rfl ?_
      refine nx_getf fl_8_28 mW_m rfl dX8_log_28 rfl ?_
      refine nx_sipush (by decide +kernel) dX8_log_31 rfl ?_
      refine nx_iconst dX8_log_34 rfl ?_
      refine nx_aload_n rfl dX8_log_35 rfl ?_
      refine nx_getf fl_8_28 mW_m rfl dX8_log_36 rfl ?_
      refine nx_sipush (by decide +kernel) dX8_log_39 rfl ?_
      refine m_iald 7 ⟨Nat.le_of_ble_eq_true rfl, Nat.le_of_ble_eq_true rfl⟩ dX8_log_42 rfl (fun x4 => ?_)
      refine nx_iconst dX8_log_43 rfl ?_
      refine nx_isub dX8_log_44 rfl ?_
      refine nx_iload_n rfl dX8_log_45 rfl ?_
      refine nx_isub dX8_log_46 rfl ?_
      refine nx_imul dX8_log_47 rfl ?_
      refine nx_iadd dX8_log_48 rfl ?_
      refine nx_iload_n rfl dX8_log_49 rfl ?_
      refine nx_iadd dX8_log_50 rfl ?_
      refine m_iald 7 ⟨Nat.le_of_ble_eq_true rfl, Nat.le_of_ble_eq_true rfl⟩ dX8_log_51 rfl (fun x5 => ?_)
      refine nx_goto (q := 58) dX8_log_52 (by decide) ?_
      exact nx_iret dX8_log_58 rfl rfl
theorem cM_log (l : Launch) {Γ : nx_G} {M0 : nx_M} {m : Nat} {u : Nat} {g : mS} {a1 : Int32} {a2 : Int32} {r : Int32}  (h : fM_log u g a1 a2 = some r) : nx_Ct l Γ 2 yX8_log cX8_log 3 (some .int) [.ref m, .int a1, .int a2] (mW Γ M0 m g) (some (.int r), (mW Γ M0 m g)) :=
  nx_ct (out := fun r0 : Int32 => (some (.int r0), (mW Γ M0 m g))) [some (.ref m), some (.int a1), some (.int a2)] pn_RX8 h (Nat.le_of_ble_eq_true rfl) rfl (fun X Z _ => jM_log  u g a1 a2 X Z)
theorem dX8_rule_0 : decode cX8_rule 0 = .ok (.aload_n 0, 1) := by decide +kernel
theorem dX8_rule_1 : decode cX8_rule 1 = .ok (.invokevirtual 158, 3) := by decide +kernel
theorem dX8_rule_4 : decode cX8_rule 4 = .ok (.ifCond .eq 21, 3) := by decide +kernel
theorem dX8_rule_7 : decode cX8_rule 7 = .ok (.iload_n 1, 1) := by decide +kernel
theorem dX8_rule_8 : decode cX8_rule 8 = .ok (.iconst 0, 1) := by decide +kernel
theorem dX8_rule_9 : decode cX8_rule 9 = .ok (.iconst 2, 1) := by decide +kernel
theorem dX8_rule_10 : decode cX8_rule 10 = .ok (.invokestatic 61, 3) := by decide +kernel
theorem dX8_rule_13 : decode cX8_rule 13 = .ok (.ifCond .eq 12, 3) := by decide +kernel
theorem dX8_rule_16 : decode cX8_rule 16 = .ok (.aload_n 0, 1) := by decide +kernel
theorem dX8_rule_17 : decode cX8_rule 17 = .ok (.getfield 19, 3) := by decide +kernel
theorem dX8_rule_20 : decode cX8_rule 20 = .ok (.iload_n 1, 1) := by decide +kernel
theorem dX8_rule_21 : decode cX8_rule 21 = .ok (.iaload, 1) := by decide +kernel
theorem dX8_rule_22 : decode cX8_rule 22 = .ok (.goto 4, 3) := by decide +kernel
theorem dX8_rule_25 : decode cX8_rule 25 = .ok (.iconst (-1), 1) := by decide +kernel
theorem dX8_rule_26 : decode cX8_rule 26 = .ok (.ireturn, 1) := by decide +kernel
def fM_rule (u : Nat) (g : mS) (a1 : Int32) : Option (Int32) :=
  (fM_isStore u g).bind fun b1 =>
  if b1 = true then
    (fM_in u a1 (iz 0) (iz 2)).bind fun b2 =>
    if b2 = true then
      (nx_rd (mlen 4) (g.1 4) a1).bind fun x3 =>
      some x3
    else
      some (iz (-1))
  else
    some (iz (-1))
set_option maxRecDepth 4000 in
theorem jM_rule {Γ : nx_G} {M0 : nx_M} {m : Nat} (u : Nat) (g : mS) (a1 : Int32)   (X : nx_X) (Z : nx_Z) : nx_J Γ X (RX8, cX8_rule, 2, (some .int), "rule", 2) Z (fun r0 : Int32 => .inr (some (.int r0), (mW Γ M0 m g))) (.inl (0, [some (.ref m), some (.int a1)], [], (mW Γ M0 m g))) (fM_rule u g a1) := by
  unfold fM_rule
  refine nx_aload_n rfl dX8_rule_0 rfl ?_
  refine nx_callVr [] (fun r => .int (bz r)) (fun _ => (mW Γ M0 m g)) cw_8_158 cv_X8_isStore (fun r e => cM_isStore X.2.1  e) mW_m rfl rfl (Nat.le_of_ble_eq_true rfl) (Nat.le_of_ble_eq_true rfl) dX8_rule_1 rfl (fun b1 => ?_)
  refine nx_ifz_eq (t := 25) dX8_rule_4 (by decide) rfl ?_ ?_
  · refine nx_iconst dX8_rule_25 rfl ?_
    exact nx_iret dX8_rule_26 rfl rfl
  · refine nx_iload_n rfl dX8_rule_7 rfl ?_
    refine nx_iconst dX8_rule_8 rfl ?_
    refine nx_iconst dX8_rule_9 rfl ?_
    refine nx_callSr [.int a1, .int (iz 0), .int (iz 2)] (fun r => .int (bz r)) (fun _ => (mW Γ M0 m g)) cw_8_61 wd_1243 (fun r e => cM_in X.2.1  e) rfl rfl (Nat.le_of_ble_eq_true rfl) (Nat.le_of_ble_eq_true rfl) dX8_rule_10 rfl (fun b2 => ?_)
    refine nx_ifz_eq (t := 25) dX8_rule_13 (by decide) rfl ?_ ?_
    · refine nx_iconst dX8_rule_25 rfl ?_
      exact nx_iret dX8_rule_26 rfl rfl
    · refine nx_aload_n rfl dX8_rule_16 rfl ?_
      refine nx_getf fl_8_19 mW_m rfl dX8_rule_17 rfl ?_
      refine nx_iload_n rfl dX8_rule_20 rfl ?_
      refine m_iald 4 ⟨Nat.le_of_ble_eq_true rfl, Nat.le_of_ble_eq_true rfl⟩ dX8_rule_21 rfl (fun x3 => ?_)
      refine nx_goto (q := 26) dX8_rule_22 (by decide) ?_
      exact nx_iret dX8_rule_26 rfl rfl
theorem cM_rule (l : Launch) {Γ : nx_G} {M0 : nx_M} {m : Nat} {u : Nat} {g : mS} {a1 : Int32} {r : Int32}  (h : fM_rule u g a1 = some r) : nx_Ct l Γ 2 yX8_rule cX8_rule 2 (some .int) [.ref m, .int a1] (mW Γ M0 m g) (some (.int r), (mW Γ M0 m g)) :=
  nx_ct (out := fun r0 : Int32 => (some (.int r0), (mW Γ M0 m g))) [some (.ref m), some (.int a1)] pn_RX8 h (Nat.le_of_ble_eq_true rfl) rfl (fun X Z _ => jM_rule  u g a1 X Z)
theorem dX8_seat_0 : decode cX8_seat 0 = .ok (.aload_n 0, 1) := by decide +kernel
theorem dX8_seat_1 : decode cX8_seat 1 = .ok (.aload_n 0, 1) := by decide +kernel
theorem dX8_seat_2 : decode cX8_seat 2 = .ok (.iload_n 1, 1) := by decide +kernel
theorem dX8_seat_3 : decode cX8_seat 3 = .ok (.invokevirtual 162, 3) := by decide +kernel
theorem dX8_seat_6 : decode cX8_seat 6 = .ok (.ifCond .eq 28, 3) := by decide +kernel
theorem dX8_seat_9 : decode cX8_seat 9 = .ok (.iload_n 2, 1) := by decide +kernel
theorem dX8_seat_10 : decode cX8_seat 10 = .ok (.iconst 0, 1) := by decide +kernel
theorem dX8_seat_11 : decode cX8_seat 11 = .ok (.iconst 4, 1) := by decide +kernel
theorem dX8_seat_12 : decode cX8_seat 12 = .ok (.invokestatic 61, 3) := by decide +kernel
theorem dX8_seat_15 : decode cX8_seat 15 = .ok (.ifCond .eq 19, 3) := by decide +kernel
theorem dX8_seat_18 : decode cX8_seat 18 = .ok (.iload_n 2, 1) := by decide +kernel
theorem dX8_seat_19 : decode cX8_seat 19 = .ok (.ifCond .eq 11, 3) := by decide +kernel
theorem dX8_seat_22 : decode cX8_seat 22 = .ok (.aload_n 0, 1) := by decide +kernel
theorem dX8_seat_23 : decode cX8_seat 23 = .ok (.iload_n 1, 1) := by decide +kernel
theorem dX8_seat_24 : decode cX8_seat 24 = .ok (.invokevirtual 229, 3) := by decide +kernel
theorem dX8_seat_27 : decode cX8_seat 27 = .ok (.ifCond .eq 7, 3) := by decide +kernel
theorem dX8_seat_30 : decode cX8_seat 30 = .ok (.iconst 0, 1) := by decide +kernel
theorem dX8_seat_31 : decode cX8_seat 31 = .ok (.goto 4, 3) := by decide +kernel
theorem dX8_seat_34 : decode cX8_seat 34 = .ok (.iconst 1, 1) := by decide +kernel
theorem dX8_seat_35 : decode cX8_seat 35 = .ok (.putfield 50, 3) := by decide +kernel
theorem dX8_seat_38 : decode cX8_seat 38 = .ok (.aload_n 0, 1) := by decide +kernel
theorem dX8_seat_39 : decode cX8_seat 39 = .ok (.getfield 50, 3) := by decide +kernel
theorem dX8_seat_42 : decode cX8_seat 42 = .ok (.iconst 1, 1) := by decide +kernel
theorem dX8_seat_43 : decode cX8_seat 43 = .ok (.if_icmp .ne 7, 3) := by decide +kernel
theorem dX8_seat_46 : decode cX8_seat 46 = .ok (.iconst 0, 1) := by decide +kernel
theorem dX8_seat_47 : decode cX8_seat 47 = .ok (.goto 9, 3) := by decide +kernel
theorem dX8_seat_50 : decode cX8_seat 50 = .ok (.aload_n 0, 1) := by decide +kernel
theorem dX8_seat_51 : decode cX8_seat 51 = .ok (.iload_n 1, 1) := by decide +kernel
theorem dX8_seat_52 : decode cX8_seat 52 = .ok (.iload_n 2, 1) := by decide +kernel
theorem dX8_seat_53 : decode cX8_seat 53 = .ok (.invokevirtual 165, 3) := by decide +kernel
theorem dX8_seat_56 : decode cX8_seat 56 = .ok (.ireturn, 1) := by decide +kernel
def fM_seat (u : Nat) (g : mS) (a1 : Int32) (a2 : Int32) : Option (Int32 × mS) :=
  (fM_isSeat u g a1).bind fun b1 =>
  (if b1 = true then
     (fM_in u a2 (iz 0) (iz 4)).bind fun b2 =>
     if b2 = true then
       if a2 = iz 0 then
         some (iz 0)
       else
         (fM_isThere u g a1).bind fun b3 =>
         if b3 = true then
           some (iz 0)
         else
           some (iz 1)
     else
       some (iz 1)
   else
     some (iz 1) : Option (Int32)).bind fun s4 =>
  (some (mFs g 0 s4)).bind fun g5 =>
  if (g5.1 0 0) = (iz 1) then
    some ((iz 0), g5)
  else
    (fM_of u g5 a1 a2).bind fun x6 =>
    some (x6, g5)
set_option maxRecDepth 4000 in
theorem jM_seat {Γ : nx_G} {M0 : nx_M} {m : Nat} (u : Nat) (g : mS) (a1 : Int32) (a2 : Int32)   (X : nx_X) (Z : nx_Z) : nx_J Γ X (RX8, cX8_seat, 3, (some .int), "seat", 4) Z (fun r0 : Int32 × mS => .inr (some (.int r0.1), (mW Γ M0 m r0.2))) (.inl (0, [some (.ref m), some (.int a1), some (.int a2)], [], (mW Γ M0 m g))) (fM_seat u g a1 a2) := by
  unfold fM_seat
  refine nx_aload_n rfl dX8_seat_0 rfl ?_
  refine nx_aload_n rfl dX8_seat_1 rfl ?_
  refine nx_iload_n rfl dX8_seat_2 rfl ?_
  refine nx_callVr [.int a1] (fun r => .int (bz r)) (fun _ => (mW Γ M0 m g)) cw_8_162 cv_X8_isSeat (fun r e => cM_isSeat X.2.1  e) mW_m rfl rfl (Nat.le_of_ble_eq_true rfl) (Nat.le_of_ble_eq_true rfl) dX8_seat_3 rfl (fun b1 => ?_)
  refine nx_seq (C1 := fun s4 : Int32 => .inl (35, [some (.ref m), some (.int a1), some (.int a2)], [.int s4, .ref m], (mW Γ M0 m g))) ?_ (fun s4 => ?_)
  · refine nx_ifz_eq (t := 34) dX8_seat_6 (by decide) rfl ?_ ?_
    · refine nx_iconst dX8_seat_34 rfl ?_
      exact nx_leaf rfl
    · refine nx_iload_n rfl dX8_seat_9 rfl ?_
      refine nx_iconst dX8_seat_10 rfl ?_
      refine nx_iconst dX8_seat_11 rfl ?_
      refine nx_callSr [.int a2, .int (iz 0), .int (iz 4)] (fun r => .int (bz r)) (fun _ => (mW Γ M0 m g)) cw_8_61 wd_1243 (fun r e => cM_in X.2.1  e) rfl rfl (Nat.le_of_ble_eq_true rfl) (Nat.le_of_ble_eq_true rfl) dX8_seat_12 rfl (fun b2 => ?_)
      refine nx_ifz_eq (t := 34) dX8_seat_15 (by decide) rfl ?_ ?_
      · refine nx_iconst dX8_seat_34 rfl ?_
        exact nx_leaf rfl
      · refine nx_iload_n rfl dX8_seat_18 rfl ?_
        refine nx_if_eq (t := 30) dX8_seat_19 (by decide) rfl ?_ ?_
        · refine nx_iconst dX8_seat_30 rfl ?_
          refine nx_goto (q := 35) dX8_seat_31 (by decide) ?_
          exact nx_leaf rfl
        · refine nx_aload_n rfl dX8_seat_22 rfl ?_
          refine nx_iload_n rfl dX8_seat_23 rfl ?_
          refine nx_callVr [.int a1] (fun r => .int (bz r)) (fun _ => (mW Γ M0 m g)) cw_8_229 cv_X8_isThere (fun r e => cM_isThere X.2.1  e) mW_m rfl rfl (Nat.le_of_ble_eq_true rfl) (Nat.le_of_ble_eq_true rfl) dX8_seat_24 rfl (fun b3 => ?_)
          refine nx_ifz_eq (t := 34) dX8_seat_27 (by decide) rfl ?_ ?_
          · refine nx_iconst dX8_seat_34 rfl ?_
            exact nx_leaf rfl
          · refine nx_iconst dX8_seat_30 rfl ?_
            refine nx_goto (q := 35) dX8_seat_31 (by decide) ?_
            exact nx_leaf rfl
  refine m_put fl_8_50 ft_8_0 rfl rfl (Nat.le_of_ble_eq_true rfl) rfl dX8_seat_35 rfl (fun g5 => ?_)
  refine nx_aload_n rfl dX8_seat_38 rfl ?_
  refine nx_getf fl_8_50 mW_m rfl dX8_seat_39 rfl ?_
  refine nx_iconst dX8_seat_42 rfl ?_
  refine nx_icmp_ne (t := 50) dX8_seat_43 (by decide) rfl ?_ ?_
  · refine nx_aload_n rfl dX8_seat_50 rfl ?_
    refine nx_iload_n rfl dX8_seat_51 rfl ?_
    refine nx_iload_n rfl dX8_seat_52 rfl ?_
    refine nx_callVr [.int a1, .int a2] (fun r => .int r) (fun _ => (mW Γ M0 m g5)) cw_8_165 cv_X8_of (fun r e => cM_of X.2.1  e) mW_m rfl rfl (Nat.le_of_ble_eq_true rfl) (Nat.le_of_ble_eq_true rfl) dX8_seat_53 rfl (fun x6 => ?_)
    exact nx_iret dX8_seat_56 rfl rfl
  · refine nx_iconst dX8_seat_46 rfl ?_
    refine nx_goto (q := 56) dX8_seat_47 (by decide) ?_
    exact nx_iret dX8_seat_56 rfl rfl
theorem cM_seat (l : Launch) {Γ : nx_G} {M0 : nx_M} {m : Nat} {u : Nat} {g : mS} {a1 : Int32} {a2 : Int32} {r : Int32 × mS}  (h : fM_seat u g a1 a2 = some r) : nx_Ct l Γ 4 yX8_seat cX8_seat 3 (some .int) [.ref m, .int a1, .int a2] (mW Γ M0 m g) (some (.int r.1), (mW Γ M0 m r.2)) :=
  nx_ct (out := fun r0 : Int32 × mS => (some (.int r0.1), (mW Γ M0 m r0.2))) [some (.ref m), some (.int a1), some (.int a2)] pn_RX8 h (Nat.le_of_ble_eq_true rfl) rfl (fun X Z _ => jM_seat  u g a1 a2 X Z)
theorem dX8_readBy_0 : decode cX8_readBy 0 = .ok (.aload_n 0, 1) := by decide +kernel
theorem dX8_readBy_1 : decode cX8_readBy 1 = .ok (.iload_n 1, 1) := by decide +kernel
theorem dX8_readBy_2 : decode cX8_readBy 2 = .ok (.invokevirtual 229, 3) := by decide +kernel
theorem dX8_readBy_5 : decode cX8_readBy 5 = .ok (.ifCond .eq 22, 3) := by decide +kernel
theorem dX8_readBy_8 : decode cX8_readBy 8 = .ok (.aload_n 0, 1) := by decide +kernel
theorem dX8_readBy_9 : decode cX8_readBy 9 = .ok (.iload_n 2, 1) := by decide +kernel
theorem dX8_readBy_10 : decode cX8_readBy 10 = .ok (.invokevirtual 232, 3) := by decide +kernel
theorem dX8_readBy_13 : decode cX8_readBy 13 = .ok (.ifCond .eq 14, 3) := by decide +kernel
theorem dX8_readBy_16 : decode cX8_readBy 16 = .ok (.aload_n 0, 1) := by decide +kernel
theorem dX8_readBy_17 : decode cX8_readBy 17 = .ok (.iload_n 1, 1) := by decide +kernel
theorem dX8_readBy_18 : decode cX8_readBy 18 = .ok (.iconst 5, 1) := by decide +kernel
theorem dX8_readBy_19 : decode cX8_readBy 19 = .ok (.iload_n 2, 1) := by decide +kernel
theorem dX8_readBy_20 : decode cX8_readBy 20 = .ok (.iadd, 1) := by decide +kernel
theorem dX8_readBy_21 : decode cX8_readBy 21 = .ok (.invokevirtual 165, 3) := by decide +kernel
theorem dX8_readBy_24 : decode cX8_readBy 24 = .ok (.goto 4, 3) := by decide +kernel
theorem dX8_readBy_27 : decode cX8_readBy 27 = .ok (.iconst (-1), 1) := by decide +kernel
theorem dX8_readBy_28 : decode cX8_readBy 28 = .ok (.ireturn, 1) := by decide +kernel
def fM_readBy (u : Nat) (g : mS) (a1 : Int32) (a2 : Int32) : Option (Int32) :=
  (fM_isThere u g a1).bind fun b1 =>
  if b1 = true then
    (fM_isKey u g a2).bind fun b2 =>
    if b2 = true then
      (fM_of u g a1 ((iz 5) + a2)).bind fun x3 =>
      some x3
    else
      some (iz (-1))
  else
    some (iz (-1))
set_option maxRecDepth 4000 in
theorem jM_readBy {Γ : nx_G} {M0 : nx_M} {m : Nat} (u : Nat) (g : mS) (a1 : Int32) (a2 : Int32)   (X : nx_X) (Z : nx_Z) : nx_J Γ X (RX8, cX8_readBy, 3, (some .int), "readBy", 4) Z (fun r0 : Int32 => .inr (some (.int r0), (mW Γ M0 m g))) (.inl (0, [some (.ref m), some (.int a1), some (.int a2)], [], (mW Γ M0 m g))) (fM_readBy u g a1 a2) := by
  unfold fM_readBy
  refine nx_aload_n rfl dX8_readBy_0 rfl ?_
  refine nx_iload_n rfl dX8_readBy_1 rfl ?_
  refine nx_callVr [.int a1] (fun r => .int (bz r)) (fun _ => (mW Γ M0 m g)) cw_8_229 cv_X8_isThere (fun r e => cM_isThere X.2.1  e) mW_m rfl rfl (Nat.le_of_ble_eq_true rfl) (Nat.le_of_ble_eq_true rfl) dX8_readBy_2 rfl (fun b1 => ?_)
  refine nx_ifz_eq (t := 27) dX8_readBy_5 (by decide) rfl ?_ ?_
  · refine nx_iconst dX8_readBy_27 rfl ?_
    exact nx_iret dX8_readBy_28 rfl rfl
  · refine nx_aload_n rfl dX8_readBy_8 rfl ?_
    refine nx_iload_n rfl dX8_readBy_9 rfl ?_
    refine nx_callVr [.int a2] (fun r => .int (bz r)) (fun _ => (mW Γ M0 m g)) cw_8_232 cv_X8_isKey (fun r e => cM_isKey X.2.1  e) mW_m rfl rfl (Nat.le_of_ble_eq_true rfl) (Nat.le_of_ble_eq_true rfl) dX8_readBy_10 rfl (fun b2 => ?_)
    refine nx_ifz_eq (t := 27) dX8_readBy_13 (by decide) rfl ?_ ?_
    · refine nx_iconst dX8_readBy_27 rfl ?_
      exact nx_iret dX8_readBy_28 rfl rfl
    · refine nx_aload_n rfl dX8_readBy_16 rfl ?_
      refine nx_iload_n rfl dX8_readBy_17 rfl ?_
      refine nx_iconst dX8_readBy_18 rfl ?_
      refine nx_iload_n rfl dX8_readBy_19 rfl ?_
      refine nx_iadd dX8_readBy_20 rfl ?_
      refine nx_callVr [.int a1, .int ((iz 5) + a2)] (fun r => .int r) (fun _ => (mW Γ M0 m g)) cw_8_165 cv_X8_of (fun r e => cM_of X.2.1  e) mW_m rfl rfl (Nat.le_of_ble_eq_true rfl) (Nat.le_of_ble_eq_true rfl) dX8_readBy_21 rfl (fun x3 => ?_)
      refine nx_goto (q := 28) dX8_readBy_24 (by decide) ?_
      exact nx_iret dX8_readBy_28 rfl rfl
theorem cM_readBy (l : Launch) {Γ : nx_G} {M0 : nx_M} {m : Nat} {u : Nat} {g : mS} {a1 : Int32} {a2 : Int32} {r : Int32}  (h : fM_readBy u g a1 a2 = some r) : nx_Ct l Γ 4 yX8_readBy cX8_readBy 3 (some .int) [.ref m, .int a1, .int a2] (mW Γ M0 m g) (some (.int r), (mW Γ M0 m g)) :=
  nx_ct (out := fun r0 : Int32 => (some (.int r0), (mW Γ M0 m g))) [some (.ref m), some (.int a1), some (.int a2)] pn_RX8 h (Nat.le_of_ble_eq_true rfl) rfl (fun X Z _ => jM_readBy  u g a1 a2 X Z)
theorem dX8_deed_0 : decode cX8_deed 0 = .ok (.aload_n 0, 1) := by decide +kernel
theorem dX8_deed_1 : decode cX8_deed 1 = .ok (.iload_n 1, 1) := by decide +kernel
theorem dX8_deed_2 : decode cX8_deed 2 = .ok (.invokevirtual 229, 3) := by decide +kernel
theorem dX8_deed_5 : decode cX8_deed 5 = .ok (.ifCond .eq 45, 3) := by decide +kernel
theorem dX8_deed_8 : decode cX8_deed 8 = .ok (.iload_n 2, 1) := by decide +kernel
theorem dX8_deed_9 : decode cX8_deed 9 = .ok (.iconst 0, 1) := by decide +kernel
theorem dX8_deed_10 : decode cX8_deed 10 = .ok (.aload_n 0, 1) := by decide +kernel
theorem dX8_deed_11 : decode cX8_deed 11 = .ok (.iload_n 1, 1) := by decide +kernel
theorem dX8_deed_12 : decode cX8_deed 12 = .ok (.bipush 11, 2) := by decide +kernel
theorem dX8_deed_14 : decode cX8_deed 14 = .ok (.invokevirtual 165, 3) := by decide +kernel
theorem dX8_deed_17 : decode cX8_deed 17 = .ok (.iconst 1, 1) := by decide +kernel
theorem dX8_deed_18 : decode cX8_deed 18 = .ok (.isub, 1) := by decide +kernel
theorem dX8_deed_19 : decode cX8_deed 19 = .ok (.invokestatic 61, 3) := by decide +kernel
theorem dX8_deed_22 : decode cX8_deed 22 = .ok (.ifCond .eq 28, 3) := by decide +kernel
theorem dX8_deed_25 : decode cX8_deed 25 = .ok (.iload_n 3, 1) := by decide +kernel
theorem dX8_deed_26 : decode cX8_deed 26 = .ok (.iconst 0, 1) := by decide +kernel
theorem dX8_deed_27 : decode cX8_deed 27 = .ok (.iconst 2, 1) := by decide +kernel
theorem dX8_deed_28 : decode cX8_deed 28 = .ok (.invokestatic 61, 3) := by decide +kernel
theorem dX8_deed_31 : decode cX8_deed 31 = .ok (.ifCond .eq 19, 3) := by decide +kernel
theorem dX8_deed_34 : decode cX8_deed 34 = .ok (.aload_n 0, 1) := by decide +kernel
theorem dX8_deed_35 : decode cX8_deed 35 = .ok (.iload_n 1, 1) := by decide +kernel
theorem dX8_deed_36 : decode cX8_deed 36 = .ok (.bipush 12, 2) := by decide +kernel
theorem dX8_deed_38 : decode cX8_deed 38 = .ok (.iconst 3, 1) := by decide +kernel
theorem dX8_deed_39 : decode cX8_deed 39 = .ok (.iload_n 2, 1) := by decide +kernel
theorem dX8_deed_40 : decode cX8_deed 40 = .ok (.imul, 1) := by decide +kernel
theorem dX8_deed_41 : decode cX8_deed 41 = .ok (.iadd, 1) := by decide +kernel
theorem dX8_deed_42 : decode cX8_deed 42 = .ok (.iload_n 3, 1) := by decide +kernel
theorem dX8_deed_43 : decode cX8_deed 43 = .ok (.iadd, 1) := by decide +kernel
theorem dX8_deed_44 : decode cX8_deed 44 = .ok (.invokevirtual 165, 3) := by decide +kernel
theorem dX8_deed_47 : decode cX8_deed 47 = .ok (.goto 6, 3) := by decide +kernel
theorem dX8_deed_50 : decode cX8_deed 50 = .ok (.ldc_w 336, 3) := by decide +kernel
theorem dX8_deed_53 : decode cX8_deed 53 = .ok (.ireturn, 1) := by decide +kernel
def fM_deed (u : Nat) (g : mS) (a1 : Int32) (a2 : Int32) (a3 : Int32) : Option (Int32) :=
  (fM_isThere u g a1).bind fun b1 =>
  if b1 = true then
    (fM_of u g a1 (iz 11)).bind fun x2 =>
    (fM_in u a2 (iz 0) (x2 - (iz 1))).bind fun b3 =>
    if b3 = true then
      (fM_in u a3 (iz 0) (iz 2)).bind fun b4 =>
      if b4 = true then
        (fM_of u g a1 (((iz 12) + ((iz 3) * a2)) + a3)).bind fun x5 =>
        some x5
      else
        some ((-1000000) : Int32)
    else
      some ((-1000000) : Int32)
  else
    some ((-1000000) : Int32)
set_option maxRecDepth 4000 in
theorem jM_deed {Γ : nx_G} {M0 : nx_M} {m : Nat} (u : Nat) (g : mS) (a1 : Int32) (a2 : Int32) (a3 : Int32)   (X : nx_X) (Z : nx_Z) : nx_J Γ X (RX8, cX8_deed, 4, (some .int), "deed", 4) Z (fun r0 : Int32 => .inr (some (.int r0), (mW Γ M0 m g))) (.inl (0, [some (.ref m), some (.int a1), some (.int a2), some (.int a3)], [], (mW Γ M0 m g))) (fM_deed u g a1 a2 a3) := by
  unfold fM_deed
  refine nx_aload_n rfl dX8_deed_0 rfl ?_
  refine nx_iload_n rfl dX8_deed_1 rfl ?_
  refine nx_callVr [.int a1] (fun r => .int (bz r)) (fun _ => (mW Γ M0 m g)) cw_8_229 cv_X8_isThere (fun r e => cM_isThere X.2.1  e) mW_m rfl rfl (Nat.le_of_ble_eq_true rfl) (Nat.le_of_ble_eq_true rfl) dX8_deed_2 rfl (fun b1 => ?_)
  refine nx_ifz_eq (t := 50) dX8_deed_5 (by decide) rfl ?_ ?_
  · refine nx_ldcw wd_1580 dX8_deed_50 rfl ?_
    exact nx_iret dX8_deed_53 rfl rfl
  · refine nx_iload_n rfl dX8_deed_8 rfl ?_
    refine nx_iconst dX8_deed_9 rfl ?_
    refine nx_aload_n rfl dX8_deed_10 rfl ?_
    refine nx_iload_n rfl dX8_deed_11 rfl ?_
    refine nx_bipush (by decide +kernel) dX8_deed_12 rfl ?_
    refine nx_callVr [.int a1, .int (iz 11)] (fun r => .int r) (fun _ => (mW Γ M0 m g)) cw_8_165 cv_X8_of (fun r e => cM_of X.2.1  e) mW_m rfl rfl (Nat.le_of_ble_eq_true rfl) (Nat.le_of_ble_eq_true rfl) dX8_deed_14 rfl (fun x2 => ?_)
    refine nx_iconst dX8_deed_17 rfl ?_
    refine nx_isub dX8_deed_18 rfl ?_
    refine nx_callSr [.int a2, .int (iz 0), .int (x2 - (iz 1))] (fun r => .int (bz r)) (fun _ => (mW Γ M0 m g)) cw_8_61 wd_1243 (fun r e => cM_in X.2.1  e) rfl rfl (Nat.le_of_ble_eq_true rfl) (Nat.le_of_ble_eq_true rfl) dX8_deed_19 rfl (fun b3 => ?_)
    refine nx_ifz_eq (t := 50) dX8_deed_22 (by decide) rfl ?_ ?_
    · refine nx_ldcw wd_1580 dX8_deed_50 rfl ?_
      exact nx_iret dX8_deed_53 rfl rfl
    · refine nx_iload_n rfl dX8_deed_25 rfl ?_
      refine nx_iconst dX8_deed_26 rfl ?_
      refine nx_iconst dX8_deed_27 rfl ?_
      refine nx_callSr [.int a3, .int (iz 0), .int (iz 2)] (fun r => .int (bz r)) (fun _ => (mW Γ M0 m g)) cw_8_61 wd_1243 (fun r e => cM_in X.2.1  e) rfl rfl (Nat.le_of_ble_eq_true rfl) (Nat.le_of_ble_eq_true rfl) dX8_deed_28 rfl (fun b4 => ?_)
      refine nx_ifz_eq (t := 50) dX8_deed_31 (by decide) rfl ?_ ?_
      · refine nx_ldcw wd_1580 dX8_deed_50 rfl ?_
        exact nx_iret dX8_deed_53 rfl rfl
      · refine nx_aload_n rfl dX8_deed_34 rfl ?_
        refine nx_iload_n rfl dX8_deed_35 rfl ?_
        refine nx_bipush (by decide +kernel) dX8_deed_36 rfl ?_
        refine nx_iconst dX8_deed_38 rfl ?_
        refine nx_iload_n rfl dX8_deed_39 rfl ?_
        refine nx_imul dX8_deed_40 rfl ?_
        refine nx_iadd dX8_deed_41 rfl ?_
        refine nx_iload_n rfl dX8_deed_42 rfl ?_
        refine nx_iadd dX8_deed_43 rfl ?_
        refine nx_callVr [.int a1, .int (((iz 12) + ((iz 3) * a2)) + a3)] (fun r => .int r) (fun _ => (mW Γ M0 m g)) cw_8_165 cv_X8_of (fun r e => cM_of X.2.1  e) mW_m rfl rfl (Nat.le_of_ble_eq_true rfl) (Nat.le_of_ble_eq_true rfl) dX8_deed_44 rfl (fun x5 => ?_)
        refine nx_goto (q := 53) dX8_deed_47 (by decide) ?_
        exact nx_iret dX8_deed_53 rfl rfl
theorem cM_deed (l : Launch) {Γ : nx_G} {M0 : nx_M} {m : Nat} {u : Nat} {g : mS} {a1 : Int32} {a2 : Int32} {a3 : Int32} {r : Int32}  (h : fM_deed u g a1 a2 a3 = some r) : nx_Ct l Γ 4 yX8_deed cX8_deed 4 (some .int) [.ref m, .int a1, .int a2, .int a3] (mW Γ M0 m g) (some (.int r), (mW Γ M0 m g)) :=
  nx_ct (out := fun r0 : Int32 => (some (.int r0), (mW Γ M0 m g))) [some (.ref m), some (.int a1), some (.int a2), some (.int a3)] pn_RX8 h (Nat.le_of_ble_eq_true rfl) rfl (fun X Z _ => jM_deed  u g a1 a2 a3 X Z)
theorem dX8_versions_0 : decode cX8_versions 0 = .ok (.aload_n 0, 1) := by decide +kernel
theorem dX8_versions_1 : decode cX8_versions 1 = .ok (.iload_n 1, 1) := by decide +kernel
theorem dX8_versions_2 : decode cX8_versions 2 = .ok (.invokevirtual 232, 3) := by decide +kernel
theorem dX8_versions_5 : decode cX8_versions 5 = .ok (.ifCond .eq 11, 3) := by decide +kernel
theorem dX8_versions_8 : decode cX8_versions 8 = .ok (.aload_n 0, 1) := by decide +kernel
theorem dX8_versions_9 : decode cX8_versions 9 = .ok (.iload_n 1, 1) := by decide +kernel
theorem dX8_versions_10 : decode cX8_versions 10 = .ok (.invokevirtual 171, 3) := by decide +kernel
theorem dX8_versions_13 : decode cX8_versions 13 = .ok (.goto 4, 3) := by decide +kernel
theorem dX8_versions_16 : decode cX8_versions 16 = .ok (.iconst (-1), 1) := by decide +kernel
theorem dX8_versions_17 : decode cX8_versions 17 = .ok (.ireturn, 1) := by decide +kernel
def fM_versions (u : Nat) (g : mS) (a1 : Int32) : Option (Int32) :=
  (fM_isKey u g a1).bind fun b1 =>
  if b1 = true then
    (fM_many u g a1).bind fun x2 =>
    some x2
  else
    some (iz (-1))
set_option maxRecDepth 4000 in
theorem jM_versions {Γ : nx_G} {M0 : nx_M} {m : Nat} (u : Nat) (g : mS) (a1 : Int32)   (X : nx_X) (Z : nx_Z) : nx_J Γ X (RX8, cX8_versions, 2, (some .int), "versions", 3) Z (fun r0 : Int32 => .inr (some (.int r0), (mW Γ M0 m g))) (.inl (0, [some (.ref m), some (.int a1)], [], (mW Γ M0 m g))) (fM_versions u g a1) := by
  unfold fM_versions
  refine nx_aload_n rfl dX8_versions_0 rfl ?_
  refine nx_iload_n rfl dX8_versions_1 rfl ?_
  refine nx_callVr [.int a1] (fun r => .int (bz r)) (fun _ => (mW Γ M0 m g)) cw_8_232 cv_X8_isKey (fun r e => cM_isKey X.2.1  e) mW_m rfl rfl (Nat.le_of_ble_eq_true rfl) (Nat.le_of_ble_eq_true rfl) dX8_versions_2 rfl (fun b1 => ?_)
  refine nx_ifz_eq (t := 16) dX8_versions_5 (by decide) rfl ?_ ?_
  · refine nx_iconst dX8_versions_16 rfl ?_
    exact nx_iret dX8_versions_17 rfl rfl
  · refine nx_aload_n rfl dX8_versions_8 rfl ?_
    refine nx_iload_n rfl dX8_versions_9 rfl ?_
    refine nx_callVr [.int a1] (fun r => .int r) (fun _ => (mW Γ M0 m g)) cw_8_171 cv_X8_many (fun r e => cM_many X.2.1  e) mW_m rfl rfl (Nat.le_of_ble_eq_true rfl) (Nat.le_of_ble_eq_true rfl) dX8_versions_10 rfl (fun x2 => ?_)
    refine nx_goto (q := 17) dX8_versions_13 (by decide) ?_
    exact nx_iret dX8_versions_17 rfl rfl
theorem cM_versions (l : Launch) {Γ : nx_G} {M0 : nx_M} {m : Nat} {u : Nat} {g : mS} {a1 : Int32} {r : Int32}  (h : fM_versions u g a1 = some r) : nx_Ct l Γ 3 yX8_versions cX8_versions 2 (some .int) [.ref m, .int a1] (mW Γ M0 m g) (some (.int r), (mW Γ M0 m g)) :=
  nx_ct (out := fun r0 : Int32 => (some (.int r0), (mW Γ M0 m g))) [some (.ref m), some (.int a1)] pn_RX8 h (Nat.le_of_ble_eq_true rfl) rfl (fun X Z _ => jM_versions  u g a1 X Z)
theorem dX8_version_0 : decode cX8_version 0 = .ok (.aload_n 0, 1) := by decide +kernel
theorem dX8_version_1 : decode cX8_version 1 = .ok (.iload_n 1, 1) := by decide +kernel
theorem dX8_version_2 : decode cX8_version 2 = .ok (.invokevirtual 232, 3) := by decide +kernel
theorem dX8_version_5 : decode cX8_version 5 = .ok (.ifCond .eq 39, 3) := by decide +kernel
theorem dX8_version_8 : decode cX8_version 8 = .ok (.iload_n 2, 1) := by decide +kernel
theorem dX8_version_9 : decode cX8_version 9 = .ok (.iconst 0, 1) := by decide +kernel
theorem dX8_version_10 : decode cX8_version 10 = .ok (.aload_n 0, 1) := by decide +kernel
theorem dX8_version_11 : decode cX8_version 11 = .ok (.iload_n 1, 1) := by decide +kernel
theorem dX8_version_12 : decode cX8_version 12 = .ok (.invokevirtual 171, 3) := by decide +kernel
theorem dX8_version_15 : decode cX8_version 15 = .ok (.iconst 1, 1) := by decide +kernel
theorem dX8_version_16 : decode cX8_version 16 = .ok (.isub, 1) := by decide +kernel
theorem dX8_version_17 : decode cX8_version 17 = .ok (.invokestatic 61, 3) := by decide +kernel
theorem dX8_version_20 : decode cX8_version 20 = .ok (.ifCond .eq 24, 3) := by decide +kernel
theorem dX8_version_23 : decode cX8_version 23 = .ok (.iload_n 3, 1) := by decide +kernel
theorem dX8_version_24 : decode cX8_version 24 = .ok (.iconst 0, 1) := by decide +kernel
theorem dX8_version_25 : decode cX8_version 25 = .ok (.iconst 3, 1) := by decide +kernel
theorem dX8_version_26 : decode cX8_version 26 = .ok (.invokestatic 61, 3) := by decide +kernel
theorem dX8_version_29 : decode cX8_version 29 = .ok (.ifCond .eq 15, 3) := by decide +kernel
theorem dX8_version_32 : decode cX8_version 32 = .ok (.aload_n 0, 1) := by decide +kernel
theorem dX8_version_33 : decode cX8_version 33 = .ok (.iload_n 1, 1) := by decide +kernel
theorem dX8_version_34 : decode cX8_version 34 = .ok (.iload_n 2, 1) := by decide +kernel
theorem dX8_version_35 : decode cX8_version 35 = .ok (.iconst 1, 1) := by decide +kernel
theorem dX8_version_36 : decode cX8_version 36 = .ok (.iload_n 3, 1) := by decide +kernel
theorem dX8_version_37 : decode cX8_version 37 = .ok (.iadd, 1) := by decide +kernel
theorem dX8_version_38 : decode cX8_version 38 = .ok (.invokevirtual 174, 3) := by decide +kernel
theorem dX8_version_41 : decode cX8_version 41 = .ok (.goto 6, 3) := by decide +kernel
theorem dX8_version_44 : decode cX8_version 44 = .ok (.ldc_w 336, 3) := by decide +kernel
theorem dX8_version_47 : decode cX8_version 47 = .ok (.ireturn, 1) := by decide +kernel
def fM_version (u : Nat) (g : mS) (a1 : Int32) (a2 : Int32) (a3 : Int32) : Option (Int32) :=
  (fM_isKey u g a1).bind fun b1 =>
  if b1 = true then
    (fM_many u g a1).bind fun x2 =>
    (fM_in u a2 (iz 0) (x2 - (iz 1))).bind fun b3 =>
    if b3 = true then
      (fM_in u a3 (iz 0) (iz 3)).bind fun b4 =>
      if b4 = true then
        (fM_its u g a1 a2 ((iz 1) + a3)).bind fun x5 =>
        some x5
      else
        some ((-1000000) : Int32)
    else
      some ((-1000000) : Int32)
  else
    some ((-1000000) : Int32)
set_option maxRecDepth 4000 in
theorem jM_version {Γ : nx_G} {M0 : nx_M} {m : Nat} (u : Nat) (g : mS) (a1 : Int32) (a2 : Int32) (a3 : Int32)   (X : nx_X) (Z : nx_Z) : nx_J Γ X (RX8, cX8_version, 4, (some .int), "version", 3) Z (fun r0 : Int32 => .inr (some (.int r0), (mW Γ M0 m g))) (.inl (0, [some (.ref m), some (.int a1), some (.int a2), some (.int a3)], [], (mW Γ M0 m g))) (fM_version u g a1 a2 a3) := by
  unfold fM_version
  refine nx_aload_n rfl dX8_version_0 rfl ?_
  refine nx_iload_n rfl dX8_version_1 rfl ?_
  refine nx_callVr [.int a1] (fun r => .int (bz r)) (fun _ => (mW Γ M0 m g)) cw_8_232 cv_X8_isKey (fun r e => cM_isKey X.2.1  e) mW_m rfl rfl (Nat.le_of_ble_eq_true rfl) (Nat.le_of_ble_eq_true rfl) dX8_version_2 rfl (fun b1 => ?_)
  refine nx_ifz_eq (t := 44) dX8_version_5 (by decide) rfl ?_ ?_
  · refine nx_ldcw wd_1580 dX8_version_44 rfl ?_
    exact nx_iret dX8_version_47 rfl rfl
  · refine nx_iload_n rfl dX8_version_8 rfl ?_
    refine nx_iconst dX8_version_9 rfl ?_
    refine nx_aload_n rfl dX8_version_10 rfl ?_
    refine nx_iload_n rfl dX8_version_11 rfl ?_
    refine nx_callVr [.int a1] (fun r => .int r) (fun _ => (mW Γ M0 m g)) cw_8_171 cv_X8_many (fun r e => cM_many X.2.1  e) mW_m rfl rfl (Nat.le_of_ble_eq_true rfl) (Nat.le_of_ble_eq_true rfl) dX8_version_12 rfl (fun x2 => ?_)
    refine nx_iconst dX8_version_15 rfl ?_
    refine nx_isub dX8_version_16 rfl ?_
    refine nx_callSr [.int a2, .int (iz 0), .int (x2 - (iz 1))] (fun r => .int (bz r)) (fun _ => (mW Γ M0 m g)) cw_8_61 wd_1243 (fun r e => cM_in X.2.1  e) rfl rfl (Nat.le_of_ble_eq_true rfl) (Nat.le_of_ble_eq_true rfl) dX8_version_17 rfl (fun b3 => ?_)
    refine nx_ifz_eq (t := 44) dX8_version_20 (by decide) rfl ?_ ?_
    · refine nx_ldcw wd_1580 dX8_version_44 rfl ?_
      exact nx_iret dX8_version_47 rfl rfl
    · refine nx_iload_n rfl dX8_version_23 rfl ?_
      refine nx_iconst dX8_version_24 rfl ?_
      refine nx_iconst dX8_version_25 rfl ?_
      refine nx_callSr [.int a3, .int (iz 0), .int (iz 3)] (fun r => .int (bz r)) (fun _ => (mW Γ M0 m g)) cw_8_61 wd_1243 (fun r e => cM_in X.2.1  e) rfl rfl (Nat.le_of_ble_eq_true rfl) (Nat.le_of_ble_eq_true rfl) dX8_version_26 rfl (fun b4 => ?_)
      refine nx_ifz_eq (t := 44) dX8_version_29 (by decide) rfl ?_ ?_
      · refine nx_ldcw wd_1580 dX8_version_44 rfl ?_
        exact nx_iret dX8_version_47 rfl rfl
      · refine nx_aload_n rfl dX8_version_32 rfl ?_
        refine nx_iload_n rfl dX8_version_33 rfl ?_
        refine nx_iload_n rfl dX8_version_34 rfl ?_
        refine nx_iconst dX8_version_35 rfl ?_
        refine nx_iload_n rfl dX8_version_36 rfl ?_
        refine nx_iadd dX8_version_37 rfl ?_
        refine nx_callVr [.int a1, .int a2, .int ((iz 1) + a3)] (fun r => .int r) (fun _ => (mW Γ M0 m g)) cw_8_174 cv_X8_its (fun r e => cM_its X.2.1  e) mW_m rfl rfl (Nat.le_of_ble_eq_true rfl) (Nat.le_of_ble_eq_true rfl) dX8_version_38 rfl (fun x5 => ?_)
        refine nx_goto (q := 47) dX8_version_41 (by decide) ?_
        exact nx_iret dX8_version_47 rfl rfl
theorem cM_version (l : Launch) {Γ : nx_G} {M0 : nx_M} {m : Nat} {u : Nat} {g : mS} {a1 : Int32} {a2 : Int32} {a3 : Int32} {r : Int32}  (h : fM_version u g a1 a2 a3 = some r) : nx_Ct l Γ 3 yX8_version cX8_version 4 (some .int) [.ref m, .int a1, .int a2, .int a3] (mW Γ M0 m g) (some (.int r), (mW Γ M0 m g)) :=
  nx_ct (out := fun r0 : Int32 => (some (.int r0), (mW Γ M0 m g))) [some (.ref m), some (.int a1), some (.int a2), some (.int a3)] pn_RX8 h (Nat.le_of_ble_eq_true rfl) rfl (fun X Z _ => jM_version  u g a1 a2 a3 X Z)
theorem dX8_would_0 : decode cX8_would 0 = .ok (.aload_n 0, 1) := by decide +kernel
theorem dX8_would_1 : decode cX8_would 1 = .ok (.iload_n 1, 1) := by decide +kernel
theorem dX8_would_2 : decode cX8_would 2 = .ok (.invokevirtual 235, 3) := by decide +kernel
theorem dX8_would_5 : decode cX8_would 5 = .ok (.ifCond .eq 20, 3) := by decide +kernel
theorem dX8_would_8 : decode cX8_would 8 = .ok (.aload_n 0, 1) := by decide +kernel
theorem dX8_would_9 : decode cX8_would 9 = .ok (.iload_n 2, 1) := by decide +kernel
theorem dX8_would_10 : decode cX8_would 10 = .ok (.invokevirtual 232, 3) := by decide +kernel
theorem dX8_would_13 : decode cX8_would 13 = .ok (.ifCond .eq 12, 3) := by decide +kernel
theorem dX8_would_16 : decode cX8_would 16 = .ok (.iload_n 3, 1) := by decide +kernel
theorem dX8_would_17 : decode cX8_would 17 = .ok (.iconst 0, 1) := by decide +kernel
theorem dX8_would_18 : decode cX8_would 18 = .ok (.iconst 1, 1) := by decide +kernel
theorem dX8_would_19 : decode cX8_would 19 = .ok (.invokestatic 61, 3) := by decide +kernel
theorem dX8_would_22 : decode cX8_would 22 = .ok (.ifCond .ne 5, 3) := by decide +kernel
theorem dX8_would_25 : decode cX8_would 25 = .ok (.iconst (-1), 1) := by decide +kernel
theorem dX8_would_26 : decode cX8_would 26 = .ok (.ireturn, 1) := by decide +kernel
theorem dX8_would_27 : decode cX8_would 27 = .ok (.iload_n 3, 1) := by decide +kernel
theorem dX8_would_28 : decode cX8_would 28 = .ok (.ifCond .ne 18, 3) := by decide +kernel
theorem dX8_would_31 : decode cX8_would 31 = .ok (.aload_n 0, 1) := by decide +kernel
theorem dX8_would_32 : decode cX8_would 32 = .ok (.iload_n 2, 1) := by decide +kernel
theorem dX8_would_33 : decode cX8_would 33 = .ok (.aload_n 0, 1) := by decide +kernel
theorem dX8_would_34 : decode cX8_would 34 = .ok (.iload_n 1, 1) := by decide +kernel
theorem dX8_would_35 : decode cX8_would 35 = .ok (.iload_n 2, 1) := by decide +kernel
theorem dX8_would_36 : decode cX8_would 36 = .ok (.invokevirtual 247, 3) := by decide +kernel
theorem dX8_would_39 : decode cX8_would 39 = .ok (.iconst 1, 1) := by decide +kernel
theorem dX8_would_40 : decode cX8_would 40 = .ok (.invokevirtual 174, 3) := by decide +kernel
theorem dX8_would_43 : decode cX8_would 43 = .ok (.goto 22, 3) := by decide +kernel
theorem dX8_would_46 : decode cX8_would 46 = .ok (.aload_n 0, 1) := by decide +kernel
theorem dX8_would_47 : decode cX8_would 47 = .ok (.iload_n 2, 1) := by decide +kernel
theorem dX8_would_48 : decode cX8_would 48 = .ok (.aload_n 0, 1) := by decide +kernel
theorem dX8_would_49 : decode cX8_would 49 = .ok (.iload_n 1, 1) := by decide +kernel
theorem dX8_would_50 : decode cX8_would 50 = .ok (.iconst 1, 1) := by decide +kernel
theorem dX8_would_51 : decode cX8_would 51 = .ok (.invokevirtual 165, 3) := by decide +kernel
theorem dX8_would_54 : decode cX8_would 54 = .ok (.invokevirtual 238, 3) := by decide +kernel
theorem dX8_would_57 : decode cX8_would 57 = .ok (.ifCond .eq 7, 3) := by decide +kernel
theorem dX8_would_60 : decode cX8_would 60 = .ok (.iconst 1, 1) := by decide +kernel
theorem dX8_would_61 : decode cX8_would 61 = .ok (.goto 4, 3) := by decide +kernel
theorem dX8_would_64 : decode cX8_would 64 = .ok (.iconst 0, 1) := by decide +kernel
theorem dX8_would_65 : decode cX8_would 65 = .ok (.ireturn, 1) := by decide +kernel
def fM_would (u : Nat) (g : mS) (a1 : Int32) (a2 : Int32) (a3 : Int32) : Option (Int32) :=
  (fM_isActive u g a1).bind fun b1 =>
  if b1 = true then
    (fM_isKey u g a2).bind fun b2 =>
    if b2 = true then
      (fM_in u a3 (iz 0) (iz 1)).bind fun b3 =>
      if b3 = true then
        if a3 = iz 0 then
          (fM_readable u g a1 a2).bind fun x6 =>
          (fM_its u g a2 x6 (iz 1)).bind fun x7 =>
          some x7
        else
          (fM_of u g a1 (iz 1)).bind fun x4 =>
          (fM_isLate u g a2 x4).bind fun b5 =>
          if b5 = true then
            some (iz 1)
          else
            some (iz 0)
      else
        some (iz (-1))
    else
      some (iz (-1))
  else
    some (iz (-1))
set_option maxRecDepth 4000 in
theorem jM_would {Γ : nx_G} {M0 : nx_M} {m : Nat} (u : Nat) (g : mS) (a1 : Int32) (a2 : Int32) (a3 : Int32)   (X : nx_X) (Z : nx_Z) : nx_J Γ X (RX8, cX8_would, 4, (some .int), "would", 5) Z (fun r0 : Int32 => .inr (some (.int r0), (mW Γ M0 m g))) (.inl (0, [some (.ref m), some (.int a1), some (.int a2), some (.int a3)], [], (mW Γ M0 m g))) (fM_would u g a1 a2 a3) := by
  unfold fM_would
  refine nx_aload_n rfl dX8_would_0 rfl ?_
  refine nx_iload_n rfl dX8_would_1 rfl ?_
  refine nx_callVr [.int a1] (fun r => .int (bz r)) (fun _ => (mW Γ M0 m g)) cw_8_235 cv_X8_isActive (fun r e => cM_isActive X.2.1  e) mW_m rfl rfl (Nat.le_of_ble_eq_true rfl) (Nat.le_of_ble_eq_true rfl) dX8_would_2 rfl (fun b1 => ?_)
  refine nx_ifz_eq (t := 25) dX8_would_5 (by decide) rfl ?_ ?_
  · refine nx_iconst dX8_would_25 rfl ?_
    exact nx_iret dX8_would_26 rfl rfl
  · refine nx_aload_n rfl dX8_would_8 rfl ?_
    refine nx_iload_n rfl dX8_would_9 rfl ?_
    refine nx_callVr [.int a2] (fun r => .int (bz r)) (fun _ => (mW Γ M0 m g)) cw_8_232 cv_X8_isKey (fun r e => cM_isKey X.2.1  e) mW_m rfl rfl (Nat.le_of_ble_eq_true rfl) (Nat.le_of_ble_eq_true rfl) dX8_would_10 rfl (fun b2 => ?_)
    refine nx_ifz_eq (t := 25) dX8_would_13 (by decide) rfl ?_ ?_
    · refine nx_iconst dX8_would_25 rfl ?_
      exact nx_iret dX8_would_26 rfl rfl
    · refine nx_iload_n rfl dX8_would_16 rfl ?_
      refine nx_iconst dX8_would_17 rfl ?_
      refine nx_iconst dX8_would_18 rfl ?_
      refine nx_callSr [.int a3, .int (iz 0), .int (iz 1)] (fun r => .int (bz r)) (fun _ => (mW Γ M0 m g)) cw_8_61 wd_1243 (fun r e => cM_in X.2.1  e) rfl rfl (Nat.le_of_ble_eq_true rfl) (Nat.le_of_ble_eq_true rfl) dX8_would_19 rfl (fun b3 => ?_)
      refine nx_ifz_ne (t := 27) dX8_would_22 (by decide) rfl ?_ ?_
      · refine nx_iload_n rfl dX8_would_27 rfl ?_
        refine nx_if_ne (t := 46) dX8_would_28 (by decide) rfl ?_ ?_
        · refine nx_aload_n rfl dX8_would_46 rfl ?_
          refine nx_iload_n rfl dX8_would_47 rfl ?_
          refine nx_aload_n rfl dX8_would_48 rfl ?_
          refine nx_iload_n rfl dX8_would_49 rfl ?_
          refine nx_iconst dX8_would_50 rfl ?_
          refine nx_callVr [.int a1, .int (iz 1)] (fun r => .int r) (fun _ => (mW Γ M0 m g)) cw_8_165 cv_X8_of (fun r e => cM_of X.2.1  e) mW_m rfl rfl (Nat.le_of_ble_eq_true rfl) (Nat.le_of_ble_eq_true rfl) dX8_would_51 rfl (fun x4 => ?_)
          refine nx_callVr [.int a2, .int x4] (fun r => .int (bz r)) (fun _ => (mW Γ M0 m g)) cw_8_238 cv_X8_isLate (fun r e => cM_isLate X.2.1  e) mW_m rfl rfl (Nat.le_of_ble_eq_true rfl) (Nat.le_of_ble_eq_true rfl) dX8_would_54 rfl (fun b5 => ?_)
          refine nx_ifz_eq (t := 64) dX8_would_57 (by decide) rfl ?_ ?_
          · refine nx_iconst dX8_would_64 rfl ?_
            exact nx_iret dX8_would_65 rfl rfl
          · refine nx_iconst dX8_would_60 rfl ?_
            refine nx_goto (q := 65) dX8_would_61 (by decide) ?_
            exact nx_iret dX8_would_65 rfl rfl
        · refine nx_aload_n rfl dX8_would_31 rfl ?_
          refine nx_iload_n rfl dX8_would_32 rfl ?_
          refine nx_aload_n rfl dX8_would_33 rfl ?_
          refine nx_iload_n rfl dX8_would_34 rfl ?_
          refine nx_iload_n rfl dX8_would_35 rfl ?_
          refine nx_callVr [.int a1, .int a2] (fun r => .int r) (fun _ => (mW Γ M0 m g)) cw_8_247 cv_X8_readable (fun r e => cM_readable X.2.1  e) mW_m rfl rfl (Nat.le_of_ble_eq_true rfl) (Nat.le_of_ble_eq_true rfl) dX8_would_36 rfl (fun x6 => ?_)
          refine nx_iconst dX8_would_39 rfl ?_
          refine nx_callVr [.int a2, .int x6, .int (iz 1)] (fun r => .int r) (fun _ => (mW Γ M0 m g)) cw_8_174 cv_X8_its (fun r e => cM_its X.2.1  e) mW_m rfl rfl (Nat.le_of_ble_eq_true rfl) (Nat.le_of_ble_eq_true rfl) dX8_would_40 rfl (fun x7 => ?_)
          refine nx_goto (q := 65) dX8_would_43 (by decide) ?_
          exact nx_iret dX8_would_65 rfl rfl
      · refine nx_iconst dX8_would_25 rfl ?_
        exact nx_iret dX8_would_26 rfl rfl
theorem cM_would (l : Launch) {Γ : nx_G} {M0 : nx_M} {m : Nat} {u : Nat} {g : mS} {a1 : Int32} {a2 : Int32} {a3 : Int32} {r : Int32}  (h : fM_would u g a1 a2 a3 = some r) : nx_Ct l Γ 5 yX8_would cX8_would 4 (some .int) [.ref m, .int a1, .int a2, .int a3] (mW Γ M0 m g) (some (.int r), (mW Γ M0 m g)) :=
  nx_ct (out := fun r0 : Int32 => (some (.int r0), (mW Γ M0 m g))) [some (.ref m), some (.int a1), some (.int a2), some (.int a3)] pn_RX8 h (Nat.le_of_ble_eq_true rfl) rfl (fun X Z _ => jM_would  u g a1 a2 a3 X Z)
theorem dX8_firstSince_0 : decode cX8_firstSince 0 = .ok (.iload_n 2, 1) := by decide +kernel
theorem dX8_firstSince_1 : decode cX8_firstSince 1 = .ok (.istore_n 3, 1) := by decide +kernel
theorem dX8_firstSince_2 : decode cX8_firstSince 2 = .ok (.iconst 1, 1) := by decide +kernel
theorem dX8_firstSince_3 : decode cX8_firstSince 3 = .ok (.istore 4, 2) := by decide +kernel
theorem dX8_firstSince_5 : decode cX8_firstSince 5 = .ok (.iload 4, 2) := by decide +kernel
theorem dX8_firstSince_7 : decode cX8_firstSince 7 = .ok (.ifCond .eq 64, 3) := by decide +kernel
theorem dX8_firstSince_10 : decode cX8_firstSince 10 = .ok (.iconst 0, 1) := by decide +kernel
theorem dX8_firstSince_11 : decode cX8_firstSince 11 = .ok (.istore 4, 2) := by decide +kernel
theorem dX8_firstSince_13 : decode cX8_firstSince 13 = .ok (.iconst 0, 1) := by decide +kernel
theorem dX8_firstSince_14 : decode cX8_firstSince 14 = .ok (.istore 5, 2) := by decide +kernel
theorem dX8_firstSince_16 : decode cX8_firstSince 16 = .ok (.iload 5, 2) := by decide +kernel
theorem dX8_firstSince_18 : decode cX8_firstSince 18 = .ok (.aload_n 0, 1) := by decide +kernel
theorem dX8_firstSince_19 : decode cX8_firstSince 19 = .ok (.iload_n 1, 1) := by decide +kernel
theorem dX8_firstSince_20 : decode cX8_firstSince 20 = .ok (.invokevirtual 171, 3) := by decide +kernel
theorem dX8_firstSince_23 : decode cX8_firstSince 23 = .ok (.if_icmp .ge 45, 3) := by decide +kernel
theorem dX8_firstSince_26 : decode cX8_firstSince 26 = .ok (.aload_n 0, 1) := by decide +kernel
theorem dX8_firstSince_27 : decode cX8_firstSince 27 = .ok (.iload_n 1, 1) := by decide +kernel
theorem dX8_firstSince_28 : decode cX8_firstSince 28 = .ok (.iload 5, 2) := by decide +kernel
theorem dX8_firstSince_30 : decode cX8_firstSince 30 = .ok (.iconst 1, 1) := by decide +kernel
theorem dX8_firstSince_31 : decode cX8_firstSince 31 = .ok (.invokevirtual 174, 3) := by decide +kernel
theorem dX8_firstSince_34 : decode cX8_firstSince 34 = .ok (.iload_n 3, 1) := by decide +kernel
theorem dX8_firstSince_35 : decode cX8_firstSince 35 = .ok (.if_icmp .gt 27, 3) := by decide +kernel
theorem dX8_firstSince_38 : decode cX8_firstSince 38 = .ok (.aload_n 0, 1) := by decide +kernel
theorem dX8_firstSince_39 : decode cX8_firstSince 39 = .ok (.iload_n 1, 1) := by decide +kernel
theorem dX8_firstSince_40 : decode cX8_firstSince 40 = .ok (.iload 5, 2) := by decide +kernel
theorem dX8_firstSince_42 : decode cX8_firstSince 42 = .ok (.iconst 3, 1) := by decide +kernel
theorem dX8_firstSince_43 : decode cX8_firstSince 43 = .ok (.invokevirtual 174, 3) := by decide +kernel
theorem dX8_firstSince_46 : decode cX8_firstSince 46 = .ok (.iload_n 3, 1) := by decide +kernel
theorem dX8_firstSince_47 : decode cX8_firstSince 47 = .ok (.if_icmp .le 15, 3) := by decide +kernel
theorem dX8_firstSince_50 : decode cX8_firstSince 50 = .ok (.aload_n 0, 1) := by decide +kernel
theorem dX8_firstSince_51 : decode cX8_firstSince 51 = .ok (.iload_n 1, 1) := by decide +kernel
theorem dX8_firstSince_52 : decode cX8_firstSince 52 = .ok (.iload 5, 2) := by decide +kernel
theorem dX8_firstSince_54 : decode cX8_firstSince 54 = .ok (.iconst 3, 1) := by decide +kernel
theorem dX8_firstSince_55 : decode cX8_firstSince 55 = .ok (.invokevirtual 174, 3) := by decide +kernel
theorem dX8_firstSince_58 : decode cX8_firstSince 58 = .ok (.istore_n 3, 1) := by decide +kernel
theorem dX8_firstSince_59 : decode cX8_firstSince 59 = .ok (.iconst 1, 1) := by decide +kernel
theorem dX8_firstSince_60 : decode cX8_firstSince 60 = .ok (.istore 4, 2) := by decide +kernel
theorem dX8_firstSince_62 : decode cX8_firstSince 62 = .ok (.iinc 5 1, 3) := by decide +kernel
theorem dX8_firstSince_65 : decode cX8_firstSince 65 = .ok (.goto (-49), 3) := by decide +kernel
theorem dX8_firstSince_68 : decode cX8_firstSince 68 = .ok (.goto (-63), 3) := by decide +kernel
theorem dX8_firstSince_71 : decode cX8_firstSince 71 = .ok (.iload_n 3, 1) := by decide +kernel
theorem dX8_firstSince_72 : decode cX8_firstSince 72 = .ok (.ireturn, 1) := by decide +kernel
def fM_firstSince_16 (u : Nat) (g : mS) (a1 : Int32) (s2 : Int32 × Int32 × Int32) : Option ((Int32 × Int32 × Int32) ⊕ (Int32 × Int32)) :=
  (fM_many u g a1).bind fun x3 =>
  if x3 ≤ s2.2.2 then
    some (.inr (s2.1, s2.2.1))
  else
    (fM_its u g a1 s2.2.2 (iz 1)).bind fun x4 =>
    (if s2.1 < x4 then
       some (s2.1, s2.2.1)
     else
       (fM_its u g a1 s2.2.2 (iz 3)).bind fun x5 =>
       if x5 ≤ s2.1 then
         some (s2.1, s2.2.1)
       else
         (fM_its u g a1 s2.2.2 (iz 3)).bind fun x6 =>
         some (x6, (iz 1)) : Option (Int32 × Int32)).bind fun s7 =>
    some (.inl (s7.1, s7.2, (s2.2.2 + iz 1)))
def fM_firstSince_5 (u : Nat) (g : mS) (a1 : Int32) (s1 : Int32 × Int32) : Option ((Int32 × Int32) ⊕ (Int32)) :=
  if s1.2 = iz 0 then
    some (.inr s1.1)
  else
    (nx_iter u (fM_firstSince_16 u g a1) (s1.1, (iz 0), (iz 0))).bind fun e8 =>
    some (.inl (e8.1, e8.2))
def fM_firstSince (u : Nat) (g : mS) (a1 : Int32) (a2 : Int32) : Option (Int32) :=
  (nx_iter u (fM_firstSince_5 u g a1) (a2, (iz 1))).bind fun e9 =>
  some e9
set_option maxRecDepth 4000 in
theorem jM_firstSince_16 {Γ : nx_G} {M0 : nx_M} {m : Nat} (u : Nat) (g : mS) (a1 : Int32) (a2 : Int32)   (X : nx_X) (Z : nx_Z) (s2 : Int32 × Int32 × Int32) : nx_J Γ X (RX8, cX8_firstSince, 6, (some .int), "firstSince", 3) Z (Sum.elim (fun s2 : Int32 × Int32 × Int32 => .inl (16, [some (.ref m), some (.int a1), some (.int a2), some (.int s2.1), some (.int s2.2.1), some (.int s2.2.2)], [], (mW Γ M0 m g))) (fun e8 : Int32 × Int32 => .inl (68, [some (.ref m), some (.int a1), some (.int a2), some (.int e8.1), some (.int e8.2), none], [], (mW Γ M0 m g)))) (.inl (16, [some (.ref m), some (.int a1), some (.int a2), some (.int s2.1), some (.int s2.2.1), some (.int s2.2.2)], [], (mW Γ M0 m g))) (fM_firstSince_16 u g a1 s2) := by
  unfold fM_firstSince_16
  refine nx_iload rfl dX8_firstSince_16 rfl ?_
  refine nx_aload_n rfl dX8_firstSince_18 rfl ?_
  refine nx_iload_n rfl dX8_firstSince_19 rfl ?_
  refine nx_callVr [.int a1] (fun r => .int r) (fun _ => (mW Γ M0 m g)) cw_8_171 cv_X8_many (fun r e => cM_many X.2.1  e) mW_m rfl rfl (Nat.le_of_ble_eq_true rfl) (Nat.le_of_ble_eq_true rfl) dX8_firstSince_20 rfl (fun x3 => ?_)
  refine nx_icmp_ge (t := 68) dX8_firstSince_23 (by decide) rfl ?_ ?_
  · refine nx_weak (ls' := [some (.ref m), some (.int a1), some (.int a2), some (.int s2.1), some (.int s2.2.1), none]) (nx_wk_s (nx_wk_s (nx_wk_s (nx_wk_s (nx_wk_s (nx_wk_n nx_wk_e)))))) ?_
    obtain ⟨_, _, _⟩ := s2
    exact nx_leaf rfl
  · refine nx_aload_n rfl dX8_firstSince_26 rfl ?_
    refine nx_iload_n rfl dX8_firstSince_27 rfl ?_
    refine nx_iload rfl dX8_firstSince_28 rfl ?_
    refine nx_iconst dX8_firstSince_30 rfl ?_
    refine nx_callVr [.int a1, .int s2.2.2, .int (iz 1)] (fun r => .int r) (fun _ => (mW Γ M0 m g)) cw_8_174 cv_X8_its (fun r e => cM_its X.2.1  e) mW_m rfl rfl (Nat.le_of_ble_eq_true rfl) (Nat.le_of_ble_eq_true rfl) dX8_firstSince_31 rfl (fun x4 => ?_)
    refine nx_iload_n rfl dX8_firstSince_34 rfl ?_
    refine nx_seq (C1 := fun s7 : Int32 × Int32 => .inl (62, [some (.ref m), some (.int a1), some (.int a2), some (.int s7.1), some (.int s7.2), some (.int s2.2.2)], [], (mW Γ M0 m g))) ?_ (fun s7 => ?_)
    · refine nx_icmp_gt (t := 62) dX8_firstSince_35 (by decide) rfl ?_ ?_
      · obtain ⟨_, _, _⟩ := s2
        exact nx_leaf rfl
      · refine nx_aload_n rfl dX8_firstSince_38 rfl ?_
        refine nx_iload_n rfl dX8_firstSince_39 rfl ?_
        refine nx_iload rfl dX8_firstSince_40 rfl ?_
        refine nx_iconst dX8_firstSince_42 rfl ?_
        refine nx_callVr [.int a1, .int s2.2.2, .int (iz 3)] (fun r => .int r) (fun _ => (mW Γ M0 m g)) cw_8_174 cv_X8_its (fun r e => cM_its X.2.1  e) mW_m rfl rfl (Nat.le_of_ble_eq_true rfl) (Nat.le_of_ble_eq_true rfl) dX8_firstSince_43 rfl (fun x5 => ?_)
        refine nx_iload_n rfl dX8_firstSince_46 rfl ?_
        refine nx_icmp_le (t := 62) dX8_firstSince_47 (by decide) rfl ?_ ?_
        · obtain ⟨_, _, _⟩ := s2
          exact nx_leaf rfl
        · refine nx_aload_n rfl dX8_firstSince_50 rfl ?_
          refine nx_iload_n rfl dX8_firstSince_51 rfl ?_
          refine nx_iload rfl dX8_firstSince_52 rfl ?_
          refine nx_iconst dX8_firstSince_54 rfl ?_
          refine nx_callVr [.int a1, .int s2.2.2, .int (iz 3)] (fun r => .int r) (fun _ => (mW Γ M0 m g)) cw_8_174 cv_X8_its (fun r e => cM_its X.2.1  e) mW_m rfl rfl (Nat.le_of_ble_eq_true rfl) (Nat.le_of_ble_eq_true rfl) dX8_firstSince_55 rfl (fun x6 => ?_)
          refine nx_istore_n [some (.ref m), some (.int a1), some (.int a2), some (.int x6), some (.int s2.2.1), some (.int s2.2.2)] dX8_firstSince_58 rfl (Nat.le_of_ble_eq_true rfl) rfl rfl ?_
          refine nx_iconst dX8_firstSince_59 rfl ?_
          refine nx_istore [some (.ref m), some (.int a1), some (.int a2), some (.int x6), some (.int (iz 1)), some (.int s2.2.2)] dX8_firstSince_60 rfl (Nat.le_of_ble_eq_true rfl) rfl rfl ?_
          obtain ⟨_, _, _⟩ := s2
          exact nx_leaf rfl
    refine nx_iinc [some (.ref m), some (.int a1), some (.int a2), some (.int s7.1), some (.int s7.2), some (.int (s2.2.2 + iz 1))] dX8_firstSince_62 rfl rfl (Nat.le_of_ble_eq_true rfl) rfl rfl ?_
    refine nx_goto (q := 16) dX8_firstSince_65 (by decide) ?_
    obtain ⟨_, _, _⟩ := s2
    obtain ⟨_, _⟩ := s7
    exact nx_leaf rfl
set_option maxRecDepth 4000 in
theorem jM_firstSince_5 {Γ : nx_G} {M0 : nx_M} {m : Nat} (u : Nat) (g : mS) (a1 : Int32) (a2 : Int32)   (X : nx_X) (Z : nx_Z) (s1 : Int32 × Int32) : nx_J Γ X (RX8, cX8_firstSince, 6, (some .int), "firstSince", 3) Z (Sum.elim (fun s1 : Int32 × Int32 => .inl (5, [some (.ref m), some (.int a1), some (.int a2), some (.int s1.1), some (.int s1.2), none], [], (mW Γ M0 m g))) (fun e9 : Int32 => .inl (71, [some (.ref m), some (.int a1), some (.int a2), some (.int e9), none, none], [], (mW Γ M0 m g)))) (.inl (5, [some (.ref m), some (.int a1), some (.int a2), some (.int s1.1), some (.int s1.2), none], [], (mW Γ M0 m g))) (fM_firstSince_5 u g a1 s1) := by
  unfold fM_firstSince_5
  refine nx_iload rfl dX8_firstSince_5 rfl ?_
  refine nx_if_eq (t := 71) dX8_firstSince_7 (by decide) rfl ?_ ?_
  · refine nx_weak (ls' := [some (.ref m), some (.int a1), some (.int a2), some (.int s1.1), none, none]) (nx_wk_s (nx_wk_s (nx_wk_s (nx_wk_s (nx_wk_n (nx_wk_n nx_wk_e)))))) ?_
    obtain ⟨_, _⟩ := s1
    exact nx_leaf rfl
  · refine nx_iconst dX8_firstSince_10 rfl ?_
    refine nx_istore [some (.ref m), some (.int a1), some (.int a2), some (.int s1.1), some (.int (iz 0)), none] dX8_firstSince_11 rfl (Nat.le_of_ble_eq_true rfl) rfl rfl ?_
    refine nx_iconst dX8_firstSince_13 rfl ?_
    refine nx_istore [some (.ref m), some (.int a1), some (.int a2), some (.int s1.1), some (.int (iz 0)), some (.int (iz 0))] dX8_firstSince_14 rfl (Nat.le_of_ble_eq_true rfl) rfl rfl ?_
    refine nx_seq (C1 := fun e8 : Int32 × Int32 => .inl (68, [some (.ref m), some (.int a1), some (.int a2), some (.int e8.1), some (.int e8.2), none], [], (mW Γ M0 m g))) (nx_loop (C1 := fun s2 : Int32 × Int32 × Int32 => .inl (16, [some (.ref m), some (.int a1), some (.int a2), some (.int s2.1), some (.int s2.2.1), some (.int s2.2.2)], [], (mW Γ M0 m g))) (fun s2 => jM_firstSince_16  u g a1 a2 X Z s2) (s1.1, (iz 0), (iz 0))) (fun e8 => ?_)
    refine nx_goto (q := 5) dX8_firstSince_68 (by decide) ?_
    obtain ⟨_, _⟩ := e8
    exact nx_leaf rfl
set_option maxRecDepth 4000 in
theorem jM_firstSince {Γ : nx_G} {M0 : nx_M} {m : Nat} (u : Nat) (g : mS) (a1 : Int32) (a2 : Int32)   (X : nx_X) (Z : nx_Z) : nx_J Γ X (RX8, cX8_firstSince, 6, (some .int), "firstSince", 3) Z (fun r0 : Int32 => .inr (some (.int r0), (mW Γ M0 m g))) (.inl (0, [some (.ref m), some (.int a1), some (.int a2), none, none, none], [], (mW Γ M0 m g))) (fM_firstSince u g a1 a2) := by
  unfold fM_firstSince
  refine nx_iload_n rfl dX8_firstSince_0 rfl ?_
  refine nx_istore_n [some (.ref m), some (.int a1), some (.int a2), some (.int a2), none, none] dX8_firstSince_1 rfl (Nat.le_of_ble_eq_true rfl) rfl rfl ?_
  refine nx_iconst dX8_firstSince_2 rfl ?_
  refine nx_istore [some (.ref m), some (.int a1), some (.int a2), some (.int a2), some (.int (iz 1)), none] dX8_firstSince_3 rfl (Nat.le_of_ble_eq_true rfl) rfl rfl ?_
  refine nx_seq (C1 := fun e9 : Int32 => .inl (71, [some (.ref m), some (.int a1), some (.int a2), some (.int e9), none, none], [], (mW Γ M0 m g))) (nx_loop (C1 := fun s1 : Int32 × Int32 => .inl (5, [some (.ref m), some (.int a1), some (.int a2), some (.int s1.1), some (.int s1.2), none], [], (mW Γ M0 m g))) (fun s1 => jM_firstSince_5  u g a1 a2 X Z s1) (a2, (iz 1))) (fun e9 => ?_)
  refine nx_iload_n rfl dX8_firstSince_71 rfl ?_
  exact nx_iret dX8_firstSince_72 rfl rfl
theorem cM_firstSince (l : Launch) {Γ : nx_G} {M0 : nx_M} {m : Nat} {u : Nat} {g : mS} {a1 : Int32} {a2 : Int32} {r : Int32}  (h : fM_firstSince u g a1 a2 = some r) : nx_Ct l Γ 3 yX8_firstSince cX8_firstSince 6 (some .int) [.ref m, .int a1, .int a2] (mW Γ M0 m g) (some (.int r), (mW Γ M0 m g)) :=
  nx_ct (out := fun r0 : Int32 => (some (.int r0), (mW Γ M0 m g))) [some (.ref m), some (.int a1), some (.int a2), none, none, none] pn_RX8 h (Nat.le_of_ble_eq_true rfl) rfl (fun X Z _ => jM_firstSince  u g a1 a2 X Z)
theorem dX8_firstLate_0 : decode cX8_firstLate 0 = .ok (.aload_n 0, 1) := by decide +kernel
theorem dX8_firstLate_1 : decode cX8_firstLate 1 = .ok (.getfield 28, 3) := by decide +kernel
theorem dX8_firstLate_4 : decode cX8_firstLate 4 = .ok (.sipush 606, 3) := by decide +kernel
theorem dX8_firstLate_7 : decode cX8_firstLate 7 = .ok (.iaload, 1) := by decide +kernel
theorem dX8_firstLate_8 : decode cX8_firstLate 8 = .ok (.iconst 2, 1) := by decide +kernel
theorem dX8_firstLate_9 : decode cX8_firstLate 9 = .ok (.iadd, 1) := by decide +kernel
theorem dX8_firstLate_10 : decode cX8_firstLate 10 = .ok (.istore_n 3, 1) := by decide +kernel
theorem dX8_firstLate_11 : decode cX8_firstLate 11 = .ok (.iconst 0, 1) := by decide +kernel
theorem dX8_firstLate_12 : decode cX8_firstLate 12 = .ok (.istore 4, 2) := by decide +kernel
theorem dX8_firstLate_14 : decode cX8_firstLate 14 = .ok (.iload 4, 2) := by decide +kernel
theorem dX8_firstLate_16 : decode cX8_firstLate 16 = .ok (.aload_n 0, 1) := by decide +kernel
theorem dX8_firstLate_17 : decode cX8_firstLate 17 = .ok (.iload_n 1, 1) := by decide +kernel
theorem dX8_firstLate_18 : decode cX8_firstLate 18 = .ok (.invokevirtual 171, 3) := by decide +kernel
theorem dX8_firstLate_21 : decode cX8_firstLate 21 = .ok (.if_icmp .ge 47, 3) := by decide +kernel
theorem dX8_firstLate_24 : decode cX8_firstLate 24 = .ok (.iload_n 2, 1) := by decide +kernel
theorem dX8_firstLate_25 : decode cX8_firstLate 25 = .ok (.aload_n 0, 1) := by decide +kernel
theorem dX8_firstLate_26 : decode cX8_firstLate 26 = .ok (.iload_n 1, 1) := by decide +kernel
theorem dX8_firstLate_27 : decode cX8_firstLate 27 = .ok (.iload 4, 2) := by decide +kernel
theorem dX8_firstLate_29 : decode cX8_firstLate 29 = .ok (.iconst 1, 1) := by decide +kernel
theorem dX8_firstLate_30 : decode cX8_firstLate 30 = .ok (.invokevirtual 174, 3) := by decide +kernel
theorem dX8_firstLate_33 : decode cX8_firstLate 33 = .ok (.invokestatic 186, 3) := by decide +kernel
theorem dX8_firstLate_36 : decode cX8_firstLate 36 = .ok (.istore 5, 2) := by decide +kernel
theorem dX8_firstLate_38 : decode cX8_firstLate 38 = .ok (.iload 5, 2) := by decide +kernel
theorem dX8_firstLate_40 : decode cX8_firstLate 40 = .ok (.aload_n 0, 1) := by decide +kernel
theorem dX8_firstLate_41 : decode cX8_firstLate 41 = .ok (.iload_n 1, 1) := by decide +kernel
theorem dX8_firstLate_42 : decode cX8_firstLate 42 = .ok (.iload 4, 2) := by decide +kernel
theorem dX8_firstLate_44 : decode cX8_firstLate 44 = .ok (.iconst 3, 1) := by decide +kernel
theorem dX8_firstLate_45 : decode cX8_firstLate 45 = .ok (.invokevirtual 174, 3) := by decide +kernel
theorem dX8_firstLate_48 : decode cX8_firstLate 48 = .ok (.if_icmp .ge 12, 3) := by decide +kernel
theorem dX8_firstLate_51 : decode cX8_firstLate 51 = .ok (.iload_n 3, 1) := by decide +kernel
theorem dX8_firstLate_52 : decode cX8_firstLate 52 = .ok (.iload 5, 2) := by decide +kernel
theorem dX8_firstLate_54 : decode cX8_firstLate 54 = .ok (.invokestatic 337, 3) := by decide +kernel
theorem dX8_firstLate_57 : decode cX8_firstLate 57 = .ok (.goto 4, 3) := by decide +kernel
theorem dX8_firstLate_60 : decode cX8_firstLate 60 = .ok (.iload_n 3, 1) := by decide +kernel
theorem dX8_firstLate_61 : decode cX8_firstLate 61 = .ok (.istore_n 3, 1) := by decide +kernel
theorem dX8_firstLate_62 : decode cX8_firstLate 62 = .ok (.iinc 4 1, 3) := by decide +kernel
theorem dX8_firstLate_65 : decode cX8_firstLate 65 = .ok (.goto (-51), 3) := by decide +kernel
theorem dX8_firstLate_68 : decode cX8_firstLate 68 = .ok (.iload_n 3, 1) := by decide +kernel
theorem dX8_firstLate_69 : decode cX8_firstLate 69 = .ok (.ireturn, 1) := by decide +kernel
def fM_firstLate_14 (u : Nat) (g : mS) (a1 : Int32) (a2 : Int32) (s2 : Int32 × Int32) : Option ((Int32 × Int32) ⊕ (Int32)) :=
  (fM_many u g a1).bind fun x3 =>
  if x3 ≤ s2.2 then
    some (.inr s2.1)
  else
    (fM_its u g a1 s2.2 (iz 1)).bind fun x4 =>
    (fM_its u g a1 s2.2 (iz 3)).bind fun x5 =>
    (if x5 ≤ (if a2 < x4 then x4 else a2) then
       some s2.1
     else
       some (if (if a2 < x4 then x4 else a2) < s2.1 then (if a2 < x4 then x4 else a2) else s2.1) : Option (Int32)).bind fun s6 =>
    some (.inl (s6, (s2.2 + iz 1)))
def fM_firstLate (u : Nat) (g : mS) (a1 : Int32) (a2 : Int32) : Option (Int32) :=
  (nx_rd (mlen 7) (g.1 7) (iz 606)).bind fun x1 =>
  (nx_iter u (fM_firstLate_14 u g a1 a2) ((x1 + (iz 2)), (iz 0))).bind fun e7 =>
  some e7
set_option maxRecDepth 4000 in
theorem jM_firstLate_14 {Γ : nx_G} {M0 : nx_M} {m : Nat} (u : Nat) (g : mS) (a1 : Int32) (a2 : Int32)   (X : nx_X) (Z : nx_Z) (s2 : Int32 × Int32) : nx_J Γ X (RX8, cX8_firstLate, 6, (some .int), "firstLate", 3) Z (Sum.elim (fun s2 : Int32 × Int32 => .inl (14, [some (.ref m), some (.int a1), some (.int a2), some (.int s2.1), some (.int s2.2), none], [], (mW Γ M0 m g))) (fun e7 : Int32 => .inl (68, [some (.ref m), some (.int a1), some (.int a2), some (.int e7), none, none], [], (mW Γ M0 m g)))) (.inl (14, [some (.ref m), some (.int a1), some (.int a2), some (.int s2.1), some (.int s2.2), none], [], (mW Γ M0 m g))) (fM_firstLate_14 u g a1 a2 s2) := by
  unfold fM_firstLate_14
  refine nx_iload rfl dX8_firstLate_14 rfl ?_
  refine nx_aload_n rfl dX8_firstLate_16 rfl ?_
  refine nx_iload_n rfl dX8_firstLate_17 rfl ?_
  refine nx_callVr [.int a1] (fun r => .int r) (fun _ => (mW Γ M0 m g)) cw_8_171 cv_X8_many (fun r e => cM_many X.2.1  e) mW_m rfl rfl (Nat.le_of_ble_eq_true rfl) (Nat.le_of_ble_eq_true rfl) dX8_firstLate_18 rfl (fun x3 => ?_)
  refine nx_icmp_ge (t := 68) dX8_firstLate_21 (by decide) rfl ?_ ?_
  · refine nx_weak (ls' := [some (.ref m), some (.int a1), some (.int a2), some (.int s2.1), none, none]) (nx_wk_s (nx_wk_s (nx_wk_s (nx_wk_s (nx_wk_n (nx_wk_n nx_wk_e)))))) ?_
    obtain ⟨_, _⟩ := s2
    exact nx_leaf rfl
  · refine nx_iload_n rfl dX8_firstLate_24 rfl ?_
    refine nx_aload_n rfl dX8_firstLate_25 rfl ?_
    refine nx_iload_n rfl dX8_firstLate_26 rfl ?_
    refine nx_iload rfl dX8_firstLate_27 rfl ?_
    refine nx_iconst dX8_firstLate_29 rfl ?_
    refine nx_callVr [.int a1, .int s2.2, .int (iz 1)] (fun r => .int r) (fun _ => (mW Γ M0 m g)) cw_8_174 cv_X8_its (fun r e => cM_its X.2.1  e) mW_m rfl rfl (Nat.le_of_ble_eq_true rfl) (Nat.le_of_ble_eq_true rfl) dX8_firstLate_30 rfl (fun x4 => ?_)
    refine nx_max wd_1426 wd_685 wd_206 wd_686 (Nat.le_of_ble_eq_true rfl) (Nat.le_of_ble_eq_true rfl) dX8_firstLate_33 rfl ?_
    refine nx_istore [some (.ref m), some (.int a1), some (.int a2), some (.int s2.1), some (.int s2.2), some (.int (if a2 < x4 then x4 else a2))] dX8_firstLate_36 rfl (Nat.le_of_ble_eq_true rfl) rfl rfl ?_
    refine nx_iload rfl dX8_firstLate_38 rfl ?_
    refine nx_aload_n rfl dX8_firstLate_40 rfl ?_
    refine nx_iload_n rfl dX8_firstLate_41 rfl ?_
    refine nx_iload rfl dX8_firstLate_42 rfl ?_
    refine nx_iconst dX8_firstLate_44 rfl ?_
    refine nx_callVr [.int a1, .int s2.2, .int (iz 3)] (fun r => .int r) (fun _ => (mW Γ M0 m g)) cw_8_174 cv_X8_its (fun r e => cM_its X.2.1  e) mW_m rfl rfl (Nat.le_of_ble_eq_true rfl) (Nat.le_of_ble_eq_true rfl) dX8_firstLate_45 rfl (fun x5 => ?_)
    refine nx_seq (C1 := fun s6 : Int32 => .inl (61, [some (.ref m), some (.int a1), some (.int a2), some (.int s2.1), some (.int s2.2), some (.int (if a2 < x4 then x4 else a2))], [.int s6], (mW Γ M0 m g))) ?_ (fun s6 => ?_)
    · refine nx_icmp_ge (t := 60) dX8_firstLate_48 (by decide) rfl ?_ ?_
      · refine nx_iload_n rfl dX8_firstLate_60 rfl ?_
        obtain ⟨_, _⟩ := s2
        exact nx_leaf rfl
      · refine nx_iload_n rfl dX8_firstLate_51 rfl ?_
        refine nx_iload rfl dX8_firstLate_52 rfl ?_
        refine nx_min wd_1621 wd_645 wd_206 wd_646 (Nat.le_of_ble_eq_true rfl) (Nat.le_of_ble_eq_true rfl) dX8_firstLate_54 rfl ?_
        refine nx_goto (q := 61) dX8_firstLate_57 (by decide) ?_
        obtain ⟨_, _⟩ := s2
        exact nx_leaf rfl
    refine nx_istore_n [some (.ref m), some (.int a1), some (.int a2), some (.int s6), some (.int s2.2), some (.int (if a2 < x4 then x4 else a2))] dX8_firstLate_61 rfl (Nat.le_of_ble_eq_true rfl) rfl rfl ?_
    refine nx_iinc [some (.ref m), some (.int a1), some (.int a2), some (.int s6), some (.int (s2.2 + iz 1)), some (.int (if a2 < x4 then x4 else a2))] dX8_firstLate_62 rfl rfl (Nat.le_of_ble_eq_true rfl) rfl rfl ?_
    refine nx_goto (q := 14) dX8_firstLate_65 (by decide) ?_
    refine nx_weak (ls' := [some (.ref m), some (.int a1), some (.int a2), some (.int s6), some (.int (s2.2 + iz 1)), none]) (nx_wk_s (nx_wk_s (nx_wk_s (nx_wk_s (nx_wk_s (nx_wk_n nx_wk_e)))))) ?_
    obtain ⟨_, _⟩ := s2
    exact nx_leaf rfl
set_option maxRecDepth 4000 in
theorem jM_firstLate {Γ : nx_G} {M0 : nx_M} {m : Nat} (u : Nat) (g : mS) (a1 : Int32) (a2 : Int32)   (X : nx_X) (Z : nx_Z) : nx_J Γ X (RX8, cX8_firstLate, 6, (some .int), "firstLate", 3) Z (fun r0 : Int32 => .inr (some (.int r0), (mW Γ M0 m g))) (.inl (0, [some (.ref m), some (.int a1), some (.int a2), none, none, none], [], (mW Γ M0 m g))) (fM_firstLate u g a1 a2) := by
  unfold fM_firstLate
  refine nx_aload_n rfl dX8_firstLate_0 rfl ?_
  refine nx_getf fl_8_28 mW_m rfl dX8_firstLate_1 rfl ?_
  refine nx_sipush (by decide +kernel) dX8_firstLate_4 rfl ?_
  refine m_iald 7 ⟨Nat.le_of_ble_eq_true rfl, Nat.le_of_ble_eq_true rfl⟩ dX8_firstLate_7 rfl (fun x1 => ?_)
  refine nx_iconst dX8_firstLate_8 rfl ?_
  refine nx_iadd dX8_firstLate_9 rfl ?_
  refine nx_istore_n [some (.ref m), some (.int a1), some (.int a2), some (.int (x1 + (iz 2))), none, none] dX8_firstLate_10 rfl (Nat.le_of_ble_eq_true rfl) rfl rfl ?_
  refine nx_iconst dX8_firstLate_11 rfl ?_
  refine nx_istore [some (.ref m), some (.int a1), some (.int a2), some (.int (x1 + (iz 2))), some (.int (iz 0)), none] dX8_firstLate_12 rfl (Nat.le_of_ble_eq_true rfl) rfl rfl ?_
  refine nx_seq (C1 := fun e7 : Int32 => .inl (68, [some (.ref m), some (.int a1), some (.int a2), some (.int e7), none, none], [], (mW Γ M0 m g))) (nx_loop (C1 := fun s2 : Int32 × Int32 => .inl (14, [some (.ref m), some (.int a1), some (.int a2), some (.int s2.1), some (.int s2.2), none], [], (mW Γ M0 m g))) (fun s2 => jM_firstLate_14  u g a1 a2 X Z s2) ((x1 + (iz 2)), (iz 0))) (fun e7 => ?_)
  refine nx_iload_n rfl dX8_firstLate_68 rfl ?_
  exact nx_iret dX8_firstLate_69 rfl rfl
theorem cM_firstLate (l : Launch) {Γ : nx_G} {M0 : nx_M} {m : Nat} {u : Nat} {g : mS} {a1 : Int32} {a2 : Int32} {r : Int32}  (h : fM_firstLate u g a1 a2 = some r) : nx_Ct l Γ 3 yX8_firstLate cX8_firstLate 6 (some .int) [.ref m, .int a1, .int a2] (mW Γ M0 m g) (some (.int r), (mW Γ M0 m g)) :=
  nx_ct (out := fun r0 : Int32 => (some (.int r0), (mW Γ M0 m g))) [some (.ref m), some (.int a1), some (.int a2), none, none, none] pn_RX8 h (Nat.le_of_ble_eq_true rfl) rfl (fun X Z _ => jM_firstLate  u g a1 a2 X Z)
theorem dX8_since_0 : decode cX8_since 0 = .ok (.aload_n 0, 1) := by decide +kernel
theorem dX8_since_1 : decode cX8_since 1 = .ok (.iload_n 1, 1) := by decide +kernel
theorem dX8_since_2 : decode cX8_since 2 = .ok (.invokevirtual 232, 3) := by decide +kernel
theorem dX8_since_5 : decode cX8_since 5 = .ok (.ifCond .eq 12, 3) := by decide +kernel
theorem dX8_since_8 : decode cX8_since 8 = .ok (.iload_n 2, 1) := by decide +kernel
theorem dX8_since_9 : decode cX8_since 9 = .ok (.iconst 0, 1) := by decide +kernel
theorem dX8_since_10 : decode cX8_since 10 = .ok (.iconst 1, 1) := by decide +kernel
theorem dX8_since_11 : decode cX8_since 11 = .ok (.invokestatic 61, 3) := by decide +kernel
theorem dX8_since_14 : decode cX8_since 14 = .ok (.ifCond .ne 5, 3) := by decide +kernel
theorem dX8_since_17 : decode cX8_since 17 = .ok (.iconst (-1), 1) := by decide +kernel
theorem dX8_since_18 : decode cX8_since 18 = .ok (.ireturn, 1) := by decide +kernel
theorem dX8_since_19 : decode cX8_since 19 = .ok (.aload_n 0, 1) := by decide +kernel
theorem dX8_since_20 : decode cX8_since 20 = .ok (.iload_n 1, 1) := by decide +kernel
theorem dX8_since_21 : decode cX8_since 21 = .ok (.iconst 1, 1) := by decide +kernel
theorem dX8_since_22 : decode cX8_since 22 = .ok (.invokevirtual 340, 3) := by decide +kernel
theorem dX8_since_25 : decode cX8_since 25 = .ok (.istore_n 3, 1) := by decide +kernel
theorem dX8_since_26 : decode cX8_since 26 = .ok (.iload_n 2, 1) := by decide +kernel
theorem dX8_since_27 : decode cX8_since 27 = .ok (.ifCond .ne 5, 3) := by decide +kernel
theorem dX8_since_30 : decode cX8_since 30 = .ok (.iload_n 3, 1) := by decide +kernel
theorem dX8_since_31 : decode cX8_since 31 = .ok (.ireturn, 1) := by decide +kernel
theorem dX8_since_32 : decode cX8_since 32 = .ok (.iconst 0, 1) := by decide +kernel
theorem dX8_since_33 : decode cX8_since 33 = .ok (.istore 4, 2) := by decide +kernel
theorem dX8_since_35 : decode cX8_since 35 = .ok (.iload_n 3, 1) := by decide +kernel
theorem dX8_since_36 : decode cX8_since 36 = .ok (.aload_n 0, 1) := by decide +kernel
theorem dX8_since_37 : decode cX8_since 37 = .ok (.getfield 28, 3) := by decide +kernel
theorem dX8_since_40 : decode cX8_since 40 = .ok (.sipush 606, 3) := by decide +kernel
theorem dX8_since_43 : decode cX8_since 43 = .ok (.iaload, 1) := by decide +kernel
theorem dX8_since_44 : decode cX8_since 44 = .ok (.iconst 1, 1) := by decide +kernel
theorem dX8_since_45 : decode cX8_since 45 = .ok (.iadd, 1) := by decide +kernel
theorem dX8_since_46 : decode cX8_since 46 = .ok (.if_icmp .gt 31, 3) := by decide +kernel
theorem dX8_since_49 : decode cX8_since 49 = .ok (.aload_n 0, 1) := by decide +kernel
theorem dX8_since_50 : decode cX8_since 50 = .ok (.iload_n 1, 1) := by decide +kernel
theorem dX8_since_51 : decode cX8_since 51 = .ok (.iload_n 3, 1) := by decide +kernel
theorem dX8_since_52 : decode cX8_since 52 = .ok (.invokevirtual 343, 3) := by decide +kernel
theorem dX8_since_55 : decode cX8_since 55 = .ok (.istore 5, 2) := by decide +kernel
theorem dX8_since_57 : decode cX8_since 57 = .ok (.iload 4, 2) := by decide +kernel
theorem dX8_since_59 : decode cX8_since 59 = .ok (.iload 5, 2) := by decide +kernel
theorem dX8_since_61 : decode cX8_since 61 = .ok (.iload_n 3, 1) := by decide +kernel
theorem dX8_since_62 : decode cX8_since 62 = .ok (.isub, 1) := by decide +kernel
theorem dX8_since_63 : decode cX8_since 63 = .ok (.iadd, 1) := by decide +kernel
theorem dX8_since_64 : decode cX8_since 64 = .ok (.istore 4, 2) := by decide +kernel
theorem dX8_since_66 : decode cX8_since 66 = .ok (.aload_n 0, 1) := by decide +kernel
theorem dX8_since_67 : decode cX8_since 67 = .ok (.iload_n 1, 1) := by decide +kernel
theorem dX8_since_68 : decode cX8_since 68 = .ok (.iload 5, 2) := by decide +kernel
theorem dX8_since_70 : decode cX8_since 70 = .ok (.invokevirtual 340, 3) := by decide +kernel
theorem dX8_since_73 : decode cX8_since 73 = .ok (.istore_n 3, 1) := by decide +kernel
theorem dX8_since_74 : decode cX8_since 74 = .ok (.goto (-39), 3) := by decide +kernel
theorem dX8_since_77 : decode cX8_since 77 = .ok (.iload 4, 2) := by decide +kernel
theorem dX8_since_79 : decode cX8_since 79 = .ok (.ireturn, 1) := by decide +kernel
def fM_since_35 (u : Nat) (g : mS) (a1 : Int32) (s4 : Int32 × Int32) : Option ((Int32 × Int32) ⊕ (Int32)) :=
  (nx_rd (mlen 7) (g.1 7) (iz 606)).bind fun x5 =>
  if (x5 + (iz 1)) < s4.1 then
    some (.inr s4.2)
  else
    (fM_firstLate u g a1 s4.1).bind fun x6 =>
    (fM_firstSince u g a1 x6).bind fun x7 =>
    some (.inl (x7, (s4.2 + (x6 - s4.1))))
def fM_since (u : Nat) (g : mS) (a1 : Int32) (a2 : Int32) : Option (Int32) :=
  (fM_isKey u g a1).bind fun b1 =>
  if b1 = true then
    (fM_in u a2 (iz 0) (iz 1)).bind fun b2 =>
    if b2 = true then
      (fM_firstSince u g a1 (iz 1)).bind fun x3 =>
      if a2 = iz 0 then
        some x3
      else
        (nx_iter u (fM_since_35 u g a1) (x3, (iz 0))).bind fun e8 =>
        some e8
    else
      some (iz (-1))
  else
    some (iz (-1))
set_option maxRecDepth 4000 in
theorem jM_since_35 {Γ : nx_G} {M0 : nx_M} {m : Nat} (u : Nat) (g : mS) (a1 : Int32) (a2 : Int32)   (X : nx_X) (Z : nx_Z) (s4 : Int32 × Int32) : nx_J Γ X (RX8, cX8_since, 6, (some .int), "since", 4) Z (Sum.elim (fun s4 : Int32 × Int32 => .inl (35, [some (.ref m), some (.int a1), some (.int a2), some (.int s4.1), some (.int s4.2), none], [], (mW Γ M0 m g))) (fun e8 : Int32 => .inl (77, [some (.ref m), some (.int a1), some (.int a2), none, some (.int e8), none], [], (mW Γ M0 m g)))) (.inl (35, [some (.ref m), some (.int a1), some (.int a2), some (.int s4.1), some (.int s4.2), none], [], (mW Γ M0 m g))) (fM_since_35 u g a1 s4) := by
  unfold fM_since_35
  refine nx_iload_n rfl dX8_since_35 rfl ?_
  refine nx_aload_n rfl dX8_since_36 rfl ?_
  refine nx_getf fl_8_28 mW_m rfl dX8_since_37 rfl ?_
  refine nx_sipush (by decide +kernel) dX8_since_40 rfl ?_
  refine m_iald 7 ⟨Nat.le_of_ble_eq_true rfl, Nat.le_of_ble_eq_true rfl⟩ dX8_since_43 rfl (fun x5 => ?_)
  refine nx_iconst dX8_since_44 rfl ?_
  refine nx_iadd dX8_since_45 rfl ?_
  refine nx_icmp_gt (t := 77) dX8_since_46 (by decide) rfl ?_ ?_
  · refine nx_weak (ls' := [some (.ref m), some (.int a1), some (.int a2), none, some (.int s4.2), none]) (nx_wk_s (nx_wk_s (nx_wk_s (nx_wk_n (nx_wk_s (nx_wk_n nx_wk_e)))))) ?_
    obtain ⟨_, _⟩ := s4
    exact nx_leaf rfl
  · refine nx_aload_n rfl dX8_since_49 rfl ?_
    refine nx_iload_n rfl dX8_since_50 rfl ?_
    refine nx_iload_n rfl dX8_since_51 rfl ?_
    refine nx_callVr [.int a1, .int s4.1] (fun r => .int r) (fun _ => (mW Γ M0 m g)) cw_8_343 cv_X8_firstLate (fun r e => cM_firstLate X.2.1  e) mW_m rfl rfl (Nat.le_of_ble_eq_true rfl) (Nat.le_of_ble_eq_true rfl) dX8_since_52 rfl (fun x6 => ?_)
    refine nx_istore [some (.ref m), some (.int a1), some (.int a2), some (.int s4.1), some (.int s4.2), some (.int x6)] dX8_since_55 rfl (Nat.le_of_ble_eq_true rfl) rfl rfl ?_
    refine nx_iload rfl dX8_since_57 rfl ?_
    refine nx_iload rfl dX8_since_59 rfl ?_
    refine nx_iload_n rfl dX8_since_61 rfl ?_
    refine nx_isub dX8_since_62 rfl ?_
    refine nx_iadd dX8_since_63 rfl ?_
    refine nx_istore [some (.ref m), some (.int a1), some (.int a2), some (.int s4.1), some (.int (s4.2 + (x6 - s4.1))), some (.int x6)] dX8_since_64 rfl (Nat.le_of_ble_eq_true rfl) rfl rfl ?_
    refine nx_aload_n rfl dX8_since_66 rfl ?_
    refine nx_iload_n rfl dX8_since_67 rfl ?_
    refine nx_iload rfl dX8_since_68 rfl ?_
    refine nx_callVr [.int a1, .int x6] (fun r => .int r) (fun _ => (mW Γ M0 m g)) cw_8_340 cv_X8_firstSince (fun r e => cM_firstSince X.2.1  e) mW_m rfl rfl (Nat.le_of_ble_eq_true rfl) (Nat.le_of_ble_eq_true rfl) dX8_since_70 rfl (fun x7 => ?_)
    refine nx_istore_n [some (.ref m), some (.int a1), some (.int a2), some (.int x7), some (.int (s4.2 + (x6 - s4.1))), some (.int x6)] dX8_since_73 rfl (Nat.le_of_ble_eq_true rfl) rfl rfl ?_
    refine nx_goto (q := 35) dX8_since_74 (by decide) ?_
    refine nx_weak (ls' := [some (.ref m), some (.int a1), some (.int a2), some (.int x7), some (.int (s4.2 + (x6 - s4.1))), none]) (nx_wk_s (nx_wk_s (nx_wk_s (nx_wk_s (nx_wk_s (nx_wk_n nx_wk_e)))))) ?_
    obtain ⟨_, _⟩ := s4
    exact nx_leaf rfl
set_option maxRecDepth 4000 in
theorem jM_since {Γ : nx_G} {M0 : nx_M} {m : Nat} (u : Nat) (g : mS) (a1 : Int32) (a2 : Int32)   (X : nx_X) (Z : nx_Z) : nx_J Γ X (RX8, cX8_since, 6, (some .int), "since", 4) Z (fun r0 : Int32 => .inr (some (.int r0), (mW Γ M0 m g))) (.inl (0, [some (.ref m), some (.int a1), some (.int a2), none, none, none], [], (mW Γ M0 m g))) (fM_since u g a1 a2) := by
  unfold fM_since
  refine nx_aload_n rfl dX8_since_0 rfl ?_
  refine nx_iload_n rfl dX8_since_1 rfl ?_
  refine nx_callVr [.int a1] (fun r => .int (bz r)) (fun _ => (mW Γ M0 m g)) cw_8_232 cv_X8_isKey (fun r e => cM_isKey X.2.1  e) mW_m rfl rfl (Nat.le_of_ble_eq_true rfl) (Nat.le_of_ble_eq_true rfl) dX8_since_2 rfl (fun b1 => ?_)
  refine nx_ifz_eq (t := 17) dX8_since_5 (by decide) rfl ?_ ?_
  · refine nx_iconst dX8_since_17 rfl ?_
    exact nx_iret dX8_since_18 rfl rfl
  · refine nx_iload_n rfl dX8_since_8 rfl ?_
    refine nx_iconst dX8_since_9 rfl ?_
    refine nx_iconst dX8_since_10 rfl ?_
    refine nx_callSr [.int a2, .int (iz 0), .int (iz 1)] (fun r => .int (bz r)) (fun _ => (mW Γ M0 m g)) cw_8_61 wd_1243 (fun r e => cM_in X.2.1  e) rfl rfl (Nat.le_of_ble_eq_true rfl) (Nat.le_of_ble_eq_true rfl) dX8_since_11 rfl (fun b2 => ?_)
    refine nx_ifz_ne (t := 19) dX8_since_14 (by decide) rfl ?_ ?_
    · refine nx_aload_n rfl dX8_since_19 rfl ?_
      refine nx_iload_n rfl dX8_since_20 rfl ?_
      refine nx_iconst dX8_since_21 rfl ?_
      refine nx_callVr [.int a1, .int (iz 1)] (fun r => .int r) (fun _ => (mW Γ M0 m g)) cw_8_340 cv_X8_firstSince (fun r e => cM_firstSince X.2.1  e) mW_m rfl rfl (Nat.le_of_ble_eq_true rfl) (Nat.le_of_ble_eq_true rfl) dX8_since_22 rfl (fun x3 => ?_)
      refine nx_istore_n [some (.ref m), some (.int a1), some (.int a2), some (.int x3), none, none] dX8_since_25 rfl (Nat.le_of_ble_eq_true rfl) rfl rfl ?_
      refine nx_iload_n rfl dX8_since_26 rfl ?_
      refine nx_if_ne (t := 32) dX8_since_27 (by decide) rfl ?_ ?_
      · refine nx_iconst dX8_since_32 rfl ?_
        refine nx_istore [some (.ref m), some (.int a1), some (.int a2), some (.int x3), some (.int (iz 0)), none] dX8_since_33 rfl (Nat.le_of_ble_eq_true rfl) rfl rfl ?_
        refine nx_seq (C1 := fun e8 : Int32 => .inl (77, [some (.ref m), some (.int a1), some (.int a2), none, some (.int e8), none], [], (mW Γ M0 m g))) (nx_loop (C1 := fun s4 : Int32 × Int32 => .inl (35, [some (.ref m), some (.int a1), some (.int a2), some (.int s4.1), some (.int s4.2), none], [], (mW Γ M0 m g))) (fun s4 => jM_since_35  u g a1 a2 X Z s4) (x3, (iz 0))) (fun e8 => ?_)
        refine nx_iload rfl dX8_since_77 rfl ?_
        exact nx_iret dX8_since_79 rfl rfl
      · refine nx_iload_n rfl dX8_since_30 rfl ?_
        exact nx_iret dX8_since_31 rfl rfl
    · refine nx_iconst dX8_since_17 rfl ?_
      exact nx_iret dX8_since_18 rfl rfl
theorem cM_since (l : Launch) {Γ : nx_G} {M0 : nx_M} {m : Nat} {u : Nat} {g : mS} {a1 : Int32} {a2 : Int32} {r : Int32}  (h : fM_since u g a1 a2 = some r) : nx_Ct l Γ 4 yX8_since cX8_since 6 (some .int) [.ref m, .int a1, .int a2] (mW Γ M0 m g) (some (.int r), (mW Γ M0 m g)) :=
  nx_ct (out := fun r0 : Int32 => (some (.int r0), (mW Γ M0 m g))) [some (.ref m), some (.int a1), some (.int a2), none, none, none] pn_RX8 h (Nat.le_of_ble_eq_true rfl) rfl (fun X Z _ => jM_since  u g a1 a2 X Z)
theorem dX8_fallsWith_0 : decode cX8_fallsWith 0 = .ok (.iconst 1, 1) := by decide +kernel
theorem dX8_fallsWith_1 : decode cX8_fallsWith 1 = .ok (.iload_n 1, 1) := by decide +kernel
theorem dX8_fallsWith_2 : decode cX8_fallsWith 2 = .ok (.ishl, 1) := by decide +kernel
theorem dX8_fallsWith_3 : decode cX8_fallsWith 3 = .ok (.istore_n 2, 1) := by decide +kernel
theorem dX8_fallsWith_4 : decode cX8_fallsWith 4 = .ok (.iconst 0, 1) := by decide +kernel
theorem dX8_fallsWith_5 : decode cX8_fallsWith 5 = .ok (.istore_n 3, 1) := by decide +kernel
theorem dX8_fallsWith_6 : decode cX8_fallsWith 6 = .ok (.iload_n 2, 1) := by decide +kernel
theorem dX8_fallsWith_7 : decode cX8_fallsWith 7 = .ok (.iload_n 3, 1) := by decide +kernel
theorem dX8_fallsWith_8 : decode cX8_fallsWith 8 = .ok (.if_icmp .eq 56, 3) := by decide +kernel
theorem dX8_fallsWith_11 : decode cX8_fallsWith 11 = .ok (.iload_n 2, 1) := by decide +kernel
theorem dX8_fallsWith_12 : decode cX8_fallsWith 12 = .ok (.istore_n 3, 1) := by decide +kernel
theorem dX8_fallsWith_13 : decode cX8_fallsWith 13 = .ok (.iconst 0, 1) := by decide +kernel
theorem dX8_fallsWith_14 : decode cX8_fallsWith 14 = .ok (.istore 4, 2) := by decide +kernel
theorem dX8_fallsWith_16 : decode cX8_fallsWith 16 = .ok (.iload 4, 2) := by decide +kernel
theorem dX8_fallsWith_18 : decode cX8_fallsWith 18 = .ok (.bipush 8, 2) := by decide +kernel
theorem dX8_fallsWith_20 : decode cX8_fallsWith 20 = .ok (.if_icmp .ge 41, 3) := by decide +kernel
theorem dX8_fallsWith_23 : decode cX8_fallsWith 23 = .ok (.iload_n 2, 1) := by decide +kernel
theorem dX8_fallsWith_24 : decode cX8_fallsWith 24 = .ok (.aload_n 0, 1) := by decide +kernel
theorem dX8_fallsWith_25 : decode cX8_fallsWith 25 = .ok (.iload 4, 2) := by decide +kernel
theorem dX8_fallsWith_27 : decode cX8_fallsWith 27 = .ok (.invokevirtual 180, 3) := by decide +kernel
theorem dX8_fallsWith_30 : decode cX8_fallsWith 30 = .ok (.ifCond .eq 22, 3) := by decide +kernel
theorem dX8_fallsWith_33 : decode cX8_fallsWith 33 = .ok (.aload_n 0, 1) := by decide +kernel
theorem dX8_fallsWith_34 : decode cX8_fallsWith 34 = .ok (.iload 4, 2) := by decide +kernel
theorem dX8_fallsWith_36 : decode cX8_fallsWith 36 = .ok (.iconst 3, 1) := by decide +kernel
theorem dX8_fallsWith_37 : decode cX8_fallsWith 37 = .ok (.invokevirtual 165, 3) := by decide +kernel
theorem dX8_fallsWith_40 : decode cX8_fallsWith 40 = .ok (.iload_n 2, 1) := by decide +kernel
theorem dX8_fallsWith_41 : decode cX8_fallsWith 41 = .ok (.iand, 1) := by decide +kernel
theorem dX8_fallsWith_42 : decode cX8_fallsWith 42 = .ok (.ifCond .eq 10, 3) := by decide +kernel
theorem dX8_fallsWith_45 : decode cX8_fallsWith 45 = .ok (.iconst 1, 1) := by decide +kernel
theorem dX8_fallsWith_46 : decode cX8_fallsWith 46 = .ok (.iload 4, 2) := by decide +kernel
theorem dX8_fallsWith_48 : decode cX8_fallsWith 48 = .ok (.ishl, 1) := by decide +kernel
theorem dX8_fallsWith_49 : decode cX8_fallsWith 49 = .ok (.goto 4, 3) := by decide +kernel
theorem dX8_fallsWith_52 : decode cX8_fallsWith 52 = .ok (.iconst 0, 1) := by decide +kernel
theorem dX8_fallsWith_53 : decode cX8_fallsWith 53 = .ok (.ior, 1) := by decide +kernel
theorem dX8_fallsWith_54 : decode cX8_fallsWith 54 = .ok (.istore_n 2, 1) := by decide +kernel
theorem dX8_fallsWith_55 : decode cX8_fallsWith 55 = .ok (.iinc 4 1, 3) := by decide +kernel
theorem dX8_fallsWith_58 : decode cX8_fallsWith 58 = .ok (.goto (-42), 3) := by decide +kernel
theorem dX8_fallsWith_61 : decode cX8_fallsWith 61 = .ok (.goto (-55), 3) := by decide +kernel
theorem dX8_fallsWith_64 : decode cX8_fallsWith 64 = .ok (.iload_n 2, 1) := by decide +kernel
theorem dX8_fallsWith_65 : decode cX8_fallsWith 65 = .ok (.ireturn, 1) := by decide +kernel
def fM_fallsWith_16 (u : Nat) (g : mS) (s2 : Int32 × Int32) : Option ((Int32 × Int32) ⊕ (Int32)) :=
  if (iz 8) ≤ s2.2 then
    some (.inr s2.1)
  else
    (fM_isOn u g s2.2).bind fun b3 =>
    (if b3 = true then
       (fM_of u g s2.2 (iz 3)).bind fun x4 =>
       if (x4 &&& s2.1) = iz 0 then
         some (iz 0)
       else
         some ((iz 1) <<< (s2.2 &&& 31))
     else
       some (iz 0) : Option (Int32)).bind fun s5 =>
    some (.inl ((s2.1 ||| s5), (s2.2 + iz 1)))
def fM_fallsWith_6 (u : Nat) (g : mS) (s1 : Int32 × Int32) : Option ((Int32 × Int32) ⊕ (Int32)) :=
  if s1.1 = s1.2 then
    some (.inr s1.1)
  else
    (nx_iter u (fM_fallsWith_16 u g) (s1.1, (iz 0))).bind fun e6 =>
    some (.inl (e6, s1.1))
def fM_fallsWith (u : Nat) (g : mS) (a1 : Int32) : Option (Int32) :=
  (nx_iter u (fM_fallsWith_6 u g) (((iz 1) <<< (a1 &&& 31)), (iz 0))).bind fun e7 =>
  some e7
set_option maxRecDepth 4000 in
theorem jM_fallsWith_16 {Γ : nx_G} {M0 : nx_M} {m : Nat} (u : Nat) (g : mS) (a1 : Int32) (s1 : Int32 × Int32)   (X : nx_X) (Z : nx_Z) (s2 : Int32 × Int32) : nx_J Γ X (RX8, cX8_fallsWith, 5, (some .int), "fallsWith", 4) Z (Sum.elim (fun s2 : Int32 × Int32 => .inl (16, [some (.ref m), some (.int a1), some (.int s2.1), some (.int s1.1), some (.int s2.2)], [], (mW Γ M0 m g))) (fun e6 : Int32 => .inl (61, [some (.ref m), some (.int a1), some (.int e6), some (.int s1.1), none], [], (mW Γ M0 m g)))) (.inl (16, [some (.ref m), some (.int a1), some (.int s2.1), some (.int s1.1), some (.int s2.2)], [], (mW Γ M0 m g))) (fM_fallsWith_16 u g s2) := by
  unfold fM_fallsWith_16
  refine nx_iload rfl dX8_fallsWith_16 rfl ?_
  refine nx_bipush (by decide +kernel) dX8_fallsWith_18 rfl ?_
  refine nx_icmp_ge (t := 61) dX8_fallsWith_20 (by decide) rfl ?_ ?_
  · refine nx_weak (ls' := [some (.ref m), some (.int a1), some (.int s2.1), some (.int s1.1), none]) (nx_wk_s (nx_wk_s (nx_wk_s (nx_wk_s (nx_wk_n nx_wk_e))))) ?_
    obtain ⟨_, _⟩ := s1
    obtain ⟨_, _⟩ := s2
    exact nx_leaf rfl
  · refine nx_iload_n rfl dX8_fallsWith_23 rfl ?_
    refine nx_aload_n rfl dX8_fallsWith_24 rfl ?_
    refine nx_iload rfl dX8_fallsWith_25 rfl ?_
    refine nx_callVr [.int s2.2] (fun r => .int (bz r)) (fun _ => (mW Γ M0 m g)) cw_8_180 cv_X8_isOn (fun r e => cM_isOn X.2.1  e) mW_m rfl rfl (Nat.le_of_ble_eq_true rfl) (Nat.le_of_ble_eq_true rfl) dX8_fallsWith_27 rfl (fun b3 => ?_)
    refine nx_seq (C1 := fun s5 : Int32 => .inl (53, [some (.ref m), some (.int a1), some (.int s2.1), some (.int s1.1), some (.int s2.2)], [.int s5, .int s2.1], (mW Γ M0 m g))) ?_ (fun s5 => ?_)
    · refine nx_ifz_eq (t := 52) dX8_fallsWith_30 (by decide) rfl ?_ ?_
      · refine nx_iconst dX8_fallsWith_52 rfl ?_
        obtain ⟨_, _⟩ := s1
        obtain ⟨_, _⟩ := s2
        exact nx_leaf rfl
      · refine nx_aload_n rfl dX8_fallsWith_33 rfl ?_
        refine nx_iload rfl dX8_fallsWith_34 rfl ?_
        refine nx_iconst dX8_fallsWith_36 rfl ?_
        refine nx_callVr [.int s2.2, .int (iz 3)] (fun r => .int r) (fun _ => (mW Γ M0 m g)) cw_8_165 cv_X8_of (fun r e => cM_of X.2.1  e) mW_m rfl rfl (Nat.le_of_ble_eq_true rfl) (Nat.le_of_ble_eq_true rfl) dX8_fallsWith_37 rfl (fun x4 => ?_)
        refine nx_iload_n rfl dX8_fallsWith_40 rfl ?_
        refine nx_iand dX8_fallsWith_41 rfl ?_
        refine nx_if_eq (t := 52) dX8_fallsWith_42 (by decide) rfl ?_ ?_
        · refine nx_iconst dX8_fallsWith_52 rfl ?_
          obtain ⟨_, _⟩ := s1
          obtain ⟨_, _⟩ := s2
          exact nx_leaf rfl
        · refine nx_iconst dX8_fallsWith_45 rfl ?_
          refine nx_iload rfl dX8_fallsWith_46 rfl ?_
          refine nx_ishl dX8_fallsWith_48 rfl ?_
          refine nx_goto (q := 53) dX8_fallsWith_49 (by decide) ?_
          obtain ⟨_, _⟩ := s1
          obtain ⟨_, _⟩ := s2
          exact nx_leaf rfl
    refine nx_ior dX8_fallsWith_53 rfl ?_
    refine nx_istore_n [some (.ref m), some (.int a1), some (.int (s2.1 ||| s5)), some (.int s1.1), some (.int s2.2)] dX8_fallsWith_54 rfl (Nat.le_of_ble_eq_true rfl) rfl rfl ?_
    refine nx_iinc [some (.ref m), some (.int a1), some (.int (s2.1 ||| s5)), some (.int s1.1), some (.int (s2.2 + iz 1))] dX8_fallsWith_55 rfl rfl (Nat.le_of_ble_eq_true rfl) rfl rfl ?_
    refine nx_goto (q := 16) dX8_fallsWith_58 (by decide) ?_
    obtain ⟨_, _⟩ := s1
    obtain ⟨_, _⟩ := s2
    exact nx_leaf rfl
set_option maxRecDepth 4000 in
theorem jM_fallsWith_6 {Γ : nx_G} {M0 : nx_M} {m : Nat} (u : Nat) (g : mS) (a1 : Int32)   (X : nx_X) (Z : nx_Z) (s1 : Int32 × Int32) : nx_J Γ X (RX8, cX8_fallsWith, 5, (some .int), "fallsWith", 4) Z (Sum.elim (fun s1 : Int32 × Int32 => .inl (6, [some (.ref m), some (.int a1), some (.int s1.1), some (.int s1.2), none], [], (mW Γ M0 m g))) (fun e7 : Int32 => .inl (64, [some (.ref m), some (.int a1), some (.int e7), none, none], [], (mW Γ M0 m g)))) (.inl (6, [some (.ref m), some (.int a1), some (.int s1.1), some (.int s1.2), none], [], (mW Γ M0 m g))) (fM_fallsWith_6 u g s1) := by
  unfold fM_fallsWith_6
  refine nx_iload_n rfl dX8_fallsWith_6 rfl ?_
  refine nx_iload_n rfl dX8_fallsWith_7 rfl ?_
  refine nx_icmp_eq (t := 64) dX8_fallsWith_8 (by decide) rfl ?_ ?_
  · refine nx_weak (ls' := [some (.ref m), some (.int a1), some (.int s1.1), none, none]) (nx_wk_s (nx_wk_s (nx_wk_s (nx_wk_n (nx_wk_n nx_wk_e))))) ?_
    obtain ⟨_, _⟩ := s1
    exact nx_leaf rfl
  · refine nx_iload_n rfl dX8_fallsWith_11 rfl ?_
    refine nx_istore_n [some (.ref m), some (.int a1), some (.int s1.1), some (.int s1.1), none] dX8_fallsWith_12 rfl (Nat.le_of_ble_eq_true rfl) rfl rfl ?_
    refine nx_iconst dX8_fallsWith_13 rfl ?_
    refine nx_istore [some (.ref m), some (.int a1), some (.int s1.1), some (.int s1.1), some (.int (iz 0))] dX8_fallsWith_14 rfl (Nat.le_of_ble_eq_true rfl) rfl rfl ?_
    refine nx_seq (C1 := fun e6 : Int32 => .inl (61, [some (.ref m), some (.int a1), some (.int e6), some (.int s1.1), none], [], (mW Γ M0 m g))) (nx_loop (C1 := fun s2 : Int32 × Int32 => .inl (16, [some (.ref m), some (.int a1), some (.int s2.1), some (.int s1.1), some (.int s2.2)], [], (mW Γ M0 m g))) (fun s2 => jM_fallsWith_16  u g a1 s1 X Z s2) (s1.1, (iz 0))) (fun e6 => ?_)
    refine nx_goto (q := 6) dX8_fallsWith_61 (by decide) ?_
    obtain ⟨_, _⟩ := s1
    exact nx_leaf rfl
set_option maxRecDepth 4000 in
theorem jM_fallsWith {Γ : nx_G} {M0 : nx_M} {m : Nat} (u : Nat) (g : mS) (a1 : Int32)   (X : nx_X) (Z : nx_Z) : nx_J Γ X (RX8, cX8_fallsWith, 5, (some .int), "fallsWith", 4) Z (fun r0 : Int32 => .inr (some (.int r0), (mW Γ M0 m g))) (.inl (0, [some (.ref m), some (.int a1), none, none, none], [], (mW Γ M0 m g))) (fM_fallsWith u g a1) := by
  unfold fM_fallsWith
  refine nx_iconst dX8_fallsWith_0 rfl ?_
  refine nx_iload_n rfl dX8_fallsWith_1 rfl ?_
  refine nx_ishl dX8_fallsWith_2 rfl ?_
  refine nx_istore_n [some (.ref m), some (.int a1), some (.int ((iz 1) <<< (a1 &&& 31))), none, none] dX8_fallsWith_3 rfl (Nat.le_of_ble_eq_true rfl) rfl rfl ?_
  refine nx_iconst dX8_fallsWith_4 rfl ?_
  refine nx_istore_n [some (.ref m), some (.int a1), some (.int ((iz 1) <<< (a1 &&& 31))), some (.int (iz 0)), none] dX8_fallsWith_5 rfl (Nat.le_of_ble_eq_true rfl) rfl rfl ?_
  refine nx_seq (C1 := fun e7 : Int32 => .inl (64, [some (.ref m), some (.int a1), some (.int e7), none, none], [], (mW Γ M0 m g))) (nx_loop (C1 := fun s1 : Int32 × Int32 => .inl (6, [some (.ref m), some (.int a1), some (.int s1.1), some (.int s1.2), none], [], (mW Γ M0 m g))) (fun s1 => jM_fallsWith_6  u g a1 X Z s1) (((iz 1) <<< (a1 &&& 31)), (iz 0))) (fun e7 => ?_)
  refine nx_iload_n rfl dX8_fallsWith_64 rfl ?_
  exact nx_iret dX8_fallsWith_65 rfl rfl
theorem cM_fallsWith (l : Launch) {Γ : nx_G} {M0 : nx_M} {m : Nat} {u : Nat} {g : mS} {a1 : Int32} {r : Int32}  (h : fM_fallsWith u g a1 = some r) : nx_Ct l Γ 4 yX8_fallsWith cX8_fallsWith 5 (some .int) [.ref m, .int a1] (mW Γ M0 m g) (some (.int r), (mW Γ M0 m g)) :=
  nx_ct (out := fun r0 : Int32 => (some (.int r0), (mW Γ M0 m g))) [some (.ref m), some (.int a1), none, none, none] pn_RX8 h (Nat.le_of_ble_eq_true rfl) rfl (fun X Z _ => jM_fallsWith  u g a1 X Z)
theorem dX8_falls_0 : decode cX8_falls 0 = .ok (.aload_n 0, 1) := by decide +kernel
theorem dX8_falls_1 : decode cX8_falls 1 = .ok (.iload_n 1, 1) := by decide +kernel
theorem dX8_falls_2 : decode cX8_falls 2 = .ok (.invokevirtual 180, 3) := by decide +kernel
theorem dX8_falls_5 : decode cX8_falls 5 = .ok (.ifCond .eq 11, 3) := by decide +kernel
theorem dX8_falls_8 : decode cX8_falls 8 = .ok (.aload_n 0, 1) := by decide +kernel
theorem dX8_falls_9 : decode cX8_falls 9 = .ok (.iload_n 1, 1) := by decide +kernel
theorem dX8_falls_10 : decode cX8_falls 10 = .ok (.invokevirtual 346, 3) := by decide +kernel
theorem dX8_falls_13 : decode cX8_falls 13 = .ok (.goto 4, 3) := by decide +kernel
theorem dX8_falls_16 : decode cX8_falls 16 = .ok (.iconst (-1), 1) := by decide +kernel
theorem dX8_falls_17 : decode cX8_falls 17 = .ok (.ireturn, 1) := by decide +kernel
def fM_falls (u : Nat) (g : mS) (a1 : Int32) : Option (Int32) :=
  (fM_isOn u g a1).bind fun b1 =>
  if b1 = true then
    (fM_fallsWith u g a1).bind fun x2 =>
    some x2
  else
    some (iz (-1))
set_option maxRecDepth 4000 in
theorem jM_falls {Γ : nx_G} {M0 : nx_M} {m : Nat} (u : Nat) (g : mS) (a1 : Int32)   (X : nx_X) (Z : nx_Z) : nx_J Γ X (RX8, cX8_falls, 2, (some .int), "falls", 5) Z (fun r0 : Int32 => .inr (some (.int r0), (mW Γ M0 m g))) (.inl (0, [some (.ref m), some (.int a1)], [], (mW Γ M0 m g))) (fM_falls u g a1) := by
  unfold fM_falls
  refine nx_aload_n rfl dX8_falls_0 rfl ?_
  refine nx_iload_n rfl dX8_falls_1 rfl ?_
  refine nx_callVr [.int a1] (fun r => .int (bz r)) (fun _ => (mW Γ M0 m g)) cw_8_180 cv_X8_isOn (fun r e => cM_isOn X.2.1  e) mW_m rfl rfl (Nat.le_of_ble_eq_true rfl) (Nat.le_of_ble_eq_true rfl) dX8_falls_2 rfl (fun b1 => ?_)
  refine nx_ifz_eq (t := 16) dX8_falls_5 (by decide) rfl ?_ ?_
  · refine nx_iconst dX8_falls_16 rfl ?_
    exact nx_iret dX8_falls_17 rfl rfl
  · refine nx_aload_n rfl dX8_falls_8 rfl ?_
    refine nx_iload_n rfl dX8_falls_9 rfl ?_
    refine nx_callVr [.int a1] (fun r => .int r) (fun _ => (mW Γ M0 m g)) cw_8_346 cv_X8_fallsWith (fun r e => cM_fallsWith X.2.1  e) mW_m rfl rfl (Nat.le_of_ble_eq_true rfl) (Nat.le_of_ble_eq_true rfl) dX8_falls_10 rfl (fun x2 => ?_)
    refine nx_goto (q := 17) dX8_falls_13 (by decide) ?_
    exact nx_iret dX8_falls_17 rfl rfl
theorem cM_falls (l : Launch) {Γ : nx_G} {M0 : nx_M} {m : Nat} {u : Nat} {g : mS} {a1 : Int32} {r : Int32}  (h : fM_falls u g a1 = some r) : nx_Ct l Γ 5 yX8_falls cX8_falls 2 (some .int) [.ref m, .int a1] (mW Γ M0 m g) (some (.int r), (mW Γ M0 m g)) :=
  nx_ct (out := fun r0 : Int32 => (some (.int r0), (mW Γ M0 m g))) [some (.ref m), some (.int a1)] pn_RX8 h (Nat.le_of_ble_eq_true rfl) rfl (fun X Z _ => jM_falls  u g a1 X Z)
theorem dX8_putAside_0 : decode cX8_putAside 0 = .ok (.aload_n 0, 1) := by decide +kernel
theorem dX8_putAside_1 : decode cX8_putAside 1 = .ok (.iconst 1, 1) := by decide +kernel
theorem dX8_putAside_2 : decode cX8_putAside 2 = .ok (.putfield 168, 3) := by decide +kernel
theorem dX8_putAside_5 : decode cX8_putAside 5 = .ok (.iconst 0, 1) := by decide +kernel
theorem dX8_putAside_6 : decode cX8_putAside 6 = .ok (.istore_n 2, 1) := by decide +kernel
theorem dX8_putAside_7 : decode cX8_putAside 7 = .ok (.iload_n 2, 1) := by decide +kernel
theorem dX8_putAside_8 : decode cX8_putAside 8 = .ok (.sipush 639, 3) := by decide +kernel
theorem dX8_putAside_11 : decode cX8_putAside 11 = .ok (.if_icmp .ge 27, 3) := by decide +kernel
theorem dX8_putAside_14 : decode cX8_putAside 14 = .ok (.aload_n 0, 1) := by decide +kernel
theorem dX8_putAside_15 : decode cX8_putAside 15 = .ok (.getfield 41, 3) := by decide +kernel
theorem dX8_putAside_18 : decode cX8_putAside 18 = .ok (.sipush 639, 3) := by decide +kernel
theorem dX8_putAside_21 : decode cX8_putAside 21 = .ok (.iload_n 1, 1) := by decide +kernel
theorem dX8_putAside_22 : decode cX8_putAside 22 = .ok (.imul, 1) := by decide +kernel
theorem dX8_putAside_23 : decode cX8_putAside 23 = .ok (.iload_n 2, 1) := by decide +kernel
theorem dX8_putAside_24 : decode cX8_putAside 24 = .ok (.iadd, 1) := by decide +kernel
theorem dX8_putAside_25 : decode cX8_putAside 25 = .ok (.aload_n 0, 1) := by decide +kernel
theorem dX8_putAside_26 : decode cX8_putAside 26 = .ok (.getfield 28, 3) := by decide +kernel
theorem dX8_putAside_29 : decode cX8_putAside 29 = .ok (.iload_n 2, 1) := by decide +kernel
theorem dX8_putAside_30 : decode cX8_putAside 30 = .ok (.iaload, 1) := by decide +kernel
theorem dX8_putAside_31 : decode cX8_putAside 31 = .ok (.iastore, 1) := by decide +kernel
theorem dX8_putAside_32 : decode cX8_putAside 32 = .ok (.iinc 2 1, 3) := by decide +kernel
theorem dX8_putAside_35 : decode cX8_putAside 35 = .ok (.goto (-28), 3) := by decide +kernel
theorem dX8_putAside_38 : decode cX8_putAside 38 = .ok (.return_, 1) := by decide +kernel
def fM_putAside_7 (a1 : Int32) (s2 : Int32 × mS) : Option ((Int32 × mS) ⊕ (mS)) :=
  if (iz 639) ≤ s2.1 then
    some (.inr s2.2)
  else
    (nx_rd (mlen 7) (s2.2.1 7) s2.1).bind fun x3 =>
    (mWr s2.2 11 (((iz 639) * a1) + s2.1) x3).bind fun g4 =>
    some (.inl ((s2.1 + iz 1), g4))
def fM_putAside (u : Nat) (g : mS) (a1 : Int32) : Option (mS) :=
  (some (mFs g 15 (iz 1))).bind fun g1 =>
  (nx_iter u (fM_putAside_7 a1) ((iz 0), g1)).bind fun e5 =>
  some e5
set_option maxRecDepth 4000 in
theorem jM_putAside_7 {Γ : nx_G} {M0 : nx_M} {m : Nat} (a1 : Int32)   (X : nx_X) (Z : nx_Z) (s2 : Int32 × mS) : nx_J Γ X (RX8, cX8_putAside, 3, none, "putAside", 1) Z (Sum.elim (fun s2 : Int32 × mS => .inl (7, [some (.ref m), some (.int a1), some (.int s2.1)], [], (mW Γ M0 m s2.2))) (fun e5 : mS => .inl (38, [some (.ref m), some (.int a1), none], [], (mW Γ M0 m e5)))) (.inl (7, [some (.ref m), some (.int a1), some (.int s2.1)], [], (mW Γ M0 m s2.2))) (fM_putAside_7 a1 s2) := by
  unfold fM_putAside_7
  refine nx_iload_n rfl dX8_putAside_7 rfl ?_
  refine nx_sipush (by decide +kernel) dX8_putAside_8 rfl ?_
  refine nx_icmp_ge (t := 38) dX8_putAside_11 (by decide) rfl ?_ ?_
  · refine nx_weak (ls' := [some (.ref m), some (.int a1), none]) (nx_wk_s (nx_wk_s (nx_wk_n nx_wk_e))) ?_
    obtain ⟨_, _⟩ := s2
    exact nx_leaf rfl
  · refine nx_aload_n rfl dX8_putAside_14 rfl ?_
    refine nx_getf fl_8_41 mW_m rfl dX8_putAside_15 rfl ?_
    refine nx_sipush (by decide +kernel) dX8_putAside_18 rfl ?_
    refine nx_iload_n rfl dX8_putAside_21 rfl ?_
    refine nx_imul dX8_putAside_22 rfl ?_
    refine nx_iload_n rfl dX8_putAside_23 rfl ?_
    refine nx_iadd dX8_putAside_24 rfl ?_
    refine nx_aload_n rfl dX8_putAside_25 rfl ?_
    refine nx_getf fl_8_28 mW_m rfl dX8_putAside_26 rfl ?_
    refine nx_iload_n rfl dX8_putAside_29 rfl ?_
    refine m_iald 7 ⟨Nat.le_of_ble_eq_true rfl, Nat.le_of_ble_eq_true rfl⟩ dX8_putAside_30 rfl (fun x3 => ?_)
    refine m_iast 11 ⟨Nat.le_of_ble_eq_true rfl, Nat.le_of_ble_eq_true rfl⟩ dX8_putAside_31 rfl (fun g4 => ?_)
    refine nx_iinc [some (.ref m), some (.int a1), some (.int (s2.1 + iz 1))] dX8_putAside_32 rfl rfl (Nat.le_of_ble_eq_true rfl) rfl rfl ?_
    refine nx_goto (q := 7) dX8_putAside_35 (by decide) ?_
    obtain ⟨_, _⟩ := s2
    exact nx_leaf rfl
set_option maxRecDepth 4000 in
theorem jM_putAside {Γ : nx_G} {M0 : nx_M} {m : Nat} (u : Nat) (g : mS) (a1 : Int32)   (X : nx_X) (Z : nx_Z) : nx_J Γ X (RX8, cX8_putAside, 3, none, "putAside", 1) Z (fun r0 : mS => .inr (none, (mW Γ M0 m r0))) (.inl (0, [some (.ref m), some (.int a1), none], [], (mW Γ M0 m g))) (fM_putAside u g a1) := by
  unfold fM_putAside
  refine nx_aload_n rfl dX8_putAside_0 rfl ?_
  refine nx_iconst dX8_putAside_1 rfl ?_
  refine m_put fl_8_168 ft_8_15 (by decide +kernel) (by decide +kernel) (Nat.le_of_ble_eq_true rfl) rfl dX8_putAside_2 rfl (fun g1 => ?_)
  refine nx_iconst dX8_putAside_5 rfl ?_
  refine nx_istore_n [some (.ref m), some (.int a1), some (.int (iz 0))] dX8_putAside_6 rfl (Nat.le_of_ble_eq_true rfl) rfl rfl ?_
  refine nx_seq (C1 := fun e5 : mS => .inl (38, [some (.ref m), some (.int a1), none], [], (mW Γ M0 m e5))) (nx_loop (C1 := fun s2 : Int32 × mS => .inl (7, [some (.ref m), some (.int a1), some (.int s2.1)], [], (mW Γ M0 m s2.2))) (fun s2 => jM_putAside_7  a1 X Z s2) ((iz 0), g1)) (fun e5 => ?_)
  exact nx_vret dX8_putAside_38 rfl rfl
theorem cM_putAside (l : Launch) {Γ : nx_G} {M0 : nx_M} {m : Nat} {u : Nat} {g : mS} {a1 : Int32} {r : mS}  (h : fM_putAside u g a1 = some r) : nx_Ct l Γ 1 yX8_putAside cX8_putAside 3 none [.ref m, .int a1] (mW Γ M0 m g) (none, (mW Γ M0 m r)) :=
  nx_ct (out := fun r0 : mS => (none, (mW Γ M0 m r0))) [some (.ref m), some (.int a1), none] pn_RX8 h (Nat.le_of_ble_eq_true rfl) rfl (fun X Z _ => jM_putAside  u g a1 X Z)
theorem dX8_bringBack_0 : decode cX8_bringBack 0 = .ok (.aload_n 0, 1) := by decide +kernel
theorem dX8_bringBack_1 : decode cX8_bringBack 1 = .ok (.iload_n 1, 1) := by decide +kernel
theorem dX8_bringBack_2 : decode cX8_bringBack 2 = .ok (.ifCond .le 7, 3) := by decide +kernel
theorem dX8_bringBack_5 : decode cX8_bringBack 5 = .ok (.iconst 1, 1) := by decide +kernel
theorem dX8_bringBack_6 : decode cX8_bringBack 6 = .ok (.goto 4, 3) := by decide +kernel
theorem dX8_bringBack_9 : decode cX8_bringBack 9 = .ok (.iconst 0, 1) := by decide +kernel
theorem dX8_bringBack_10 : decode cX8_bringBack 10 = .ok (.putfield 168, 3) := by decide +kernel
theorem dX8_bringBack_13 : decode cX8_bringBack 13 = .ok (.iconst 0, 1) := by decide +kernel
theorem dX8_bringBack_14 : decode cX8_bringBack 14 = .ok (.istore_n 2, 1) := by decide +kernel
theorem dX8_bringBack_15 : decode cX8_bringBack 15 = .ok (.iload_n 2, 1) := by decide +kernel
theorem dX8_bringBack_16 : decode cX8_bringBack 16 = .ok (.sipush 639, 3) := by decide +kernel
theorem dX8_bringBack_19 : decode cX8_bringBack 19 = .ok (.if_icmp .ge 27, 3) := by decide +kernel
theorem dX8_bringBack_22 : decode cX8_bringBack 22 = .ok (.aload_n 0, 1) := by decide +kernel
theorem dX8_bringBack_23 : decode cX8_bringBack 23 = .ok (.getfield 28, 3) := by decide +kernel
theorem dX8_bringBack_26 : decode cX8_bringBack 26 = .ok (.iload_n 2, 1) := by decide +kernel
theorem dX8_bringBack_27 : decode cX8_bringBack 27 = .ok (.aload_n 0, 1) := by decide +kernel
theorem dX8_bringBack_28 : decode cX8_bringBack 28 = .ok (.getfield 41, 3) := by decide +kernel
theorem dX8_bringBack_31 : decode cX8_bringBack 31 = .ok (.sipush 639, 3) := by decide +kernel
theorem dX8_bringBack_34 : decode cX8_bringBack 34 = .ok (.iload_n 1, 1) := by decide +kernel
theorem dX8_bringBack_35 : decode cX8_bringBack 35 = .ok (.imul, 1) := by decide +kernel
theorem dX8_bringBack_36 : decode cX8_bringBack 36 = .ok (.iload_n 2, 1) := by decide +kernel
theorem dX8_bringBack_37 : decode cX8_bringBack 37 = .ok (.iadd, 1) := by decide +kernel
theorem dX8_bringBack_38 : decode cX8_bringBack 38 = .ok (.iaload, 1) := by decide +kernel
theorem dX8_bringBack_39 : decode cX8_bringBack 39 = .ok (.iastore, 1) := by decide +kernel
theorem dX8_bringBack_40 : decode cX8_bringBack 40 = .ok (.iinc 2 1, 3) := by decide +kernel
theorem dX8_bringBack_43 : decode cX8_bringBack 43 = .ok (.goto (-28), 3) := by decide +kernel
theorem dX8_bringBack_46 : decode cX8_bringBack 46 = .ok (.return_, 1) := by decide +kernel
def fM_bringBack_15 (a1 : Int32) (s3 : Int32 × mS) : Option ((Int32 × mS) ⊕ (mS)) :=
  if (iz 639) ≤ s3.1 then
    some (.inr s3.2)
  else
    (nx_rd (mlen 11) (s3.2.1 11) (((iz 639) * a1) + s3.1)).bind fun x4 =>
    (mWr s3.2 7 s3.1 x4).bind fun g5 =>
    some (.inl ((s3.1 + iz 1), g5))
def fM_bringBack (u : Nat) (g : mS) (a1 : Int32) : Option (mS) :=
  (if a1 ≤ iz 0 then
     some (iz 0)
   else
     some (iz 1) : Option (Int32)).bind fun s1 =>
  ((nx_tob s1).bind fun b => some (mFs g 15 (bz b))).bind fun g2 =>
  (nx_iter u (fM_bringBack_15 a1) ((iz 0), g2)).bind fun e6 =>
  some e6
set_option maxRecDepth 4000 in
theorem jM_bringBack_15 {Γ : nx_G} {M0 : nx_M} {m : Nat} (a1 : Int32)   (X : nx_X) (Z : nx_Z) (s3 : Int32 × mS) : nx_J Γ X (RX8, cX8_bringBack, 3, none, "bringBack", 1) Z (Sum.elim (fun s3 : Int32 × mS => .inl (15, [some (.ref m), some (.int a1), some (.int s3.1)], [], (mW Γ M0 m s3.2))) (fun e6 : mS => .inl (46, [some (.ref m), some (.int a1), none], [], (mW Γ M0 m e6)))) (.inl (15, [some (.ref m), some (.int a1), some (.int s3.1)], [], (mW Γ M0 m s3.2))) (fM_bringBack_15 a1 s3) := by
  unfold fM_bringBack_15
  refine nx_iload_n rfl dX8_bringBack_15 rfl ?_
  refine nx_sipush (by decide +kernel) dX8_bringBack_16 rfl ?_
  refine nx_icmp_ge (t := 46) dX8_bringBack_19 (by decide) rfl ?_ ?_
  · refine nx_weak (ls' := [some (.ref m), some (.int a1), none]) (nx_wk_s (nx_wk_s (nx_wk_n nx_wk_e))) ?_
    obtain ⟨_, _⟩ := s3
    exact nx_leaf rfl
  · refine nx_aload_n rfl dX8_bringBack_22 rfl ?_
    refine nx_getf fl_8_28 mW_m rfl dX8_bringBack_23 rfl ?_
    refine nx_iload_n rfl dX8_bringBack_26 rfl ?_
    refine nx_aload_n rfl dX8_bringBack_27 rfl ?_
    refine nx_getf fl_8_41 mW_m rfl dX8_bringBack_28 rfl ?_
    refine nx_sipush (by decide +kernel) dX8_bringBack_31 rfl ?_
    refine nx_iload_n rfl dX8_bringBack_34 rfl ?_
    refine nx_imul dX8_bringBack_35 rfl ?_
    refine nx_iload_n rfl dX8_bringBack_36 rfl ?_
    refine nx_iadd dX8_bringBack_37 rfl ?_
    refine m_iald 11 ⟨Nat.le_of_ble_eq_true rfl, Nat.le_of_ble_eq_true rfl⟩ dX8_bringBack_38 rfl (fun x4 => ?_)
    refine m_iast 7 ⟨Nat.le_of_ble_eq_true rfl, Nat.le_of_ble_eq_true rfl⟩ dX8_bringBack_39 rfl (fun g5 => ?_)
    refine nx_iinc [some (.ref m), some (.int a1), some (.int (s3.1 + iz 1))] dX8_bringBack_40 rfl rfl (Nat.le_of_ble_eq_true rfl) rfl rfl ?_
    refine nx_goto (q := 15) dX8_bringBack_43 (by decide) ?_
    obtain ⟨_, _⟩ := s3
    exact nx_leaf rfl
set_option maxRecDepth 4000 in
theorem jM_bringBack {Γ : nx_G} {M0 : nx_M} {m : Nat} (u : Nat) (g : mS) (a1 : Int32)   (X : nx_X) (Z : nx_Z) : nx_J Γ X (RX8, cX8_bringBack, 3, none, "bringBack", 1) Z (fun r0 : mS => .inr (none, (mW Γ M0 m r0))) (.inl (0, [some (.ref m), some (.int a1), none], [], (mW Γ M0 m g))) (fM_bringBack u g a1) := by
  unfold fM_bringBack
  refine nx_aload_n rfl dX8_bringBack_0 rfl ?_
  refine nx_iload_n rfl dX8_bringBack_1 rfl ?_
  refine nx_seq (C1 := fun s1 : Int32 => .inl (10, [some (.ref m), some (.int a1), none], [.int s1, .ref m], (mW Γ M0 m g))) ?_ (fun s1 => ?_)
  · refine nx_if_le (t := 9) dX8_bringBack_2 (by decide) rfl ?_ ?_
    · refine nx_iconst dX8_bringBack_9 rfl ?_
      exact nx_leaf rfl
    · refine nx_iconst dX8_bringBack_5 rfl ?_
      refine nx_goto (q := 10) dX8_bringBack_6 (by decide) ?_
      exact nx_leaf rfl
  refine m_putz fl_8_168 ft_8_15 (Nat.le_of_ble_eq_true rfl) (fun _ => rfl) dX8_bringBack_10 rfl (fun g2 => ?_)
  refine nx_iconst dX8_bringBack_13 rfl ?_
  refine nx_istore_n [some (.ref m), some (.int a1), some (.int (iz 0))] dX8_bringBack_14 rfl (Nat.le_of_ble_eq_true rfl) rfl rfl ?_
  refine nx_seq (C1 := fun e6 : mS => .inl (46, [some (.ref m), some (.int a1), none], [], (mW Γ M0 m e6))) (nx_loop (C1 := fun s3 : Int32 × mS => .inl (15, [some (.ref m), some (.int a1), some (.int s3.1)], [], (mW Γ M0 m s3.2))) (fun s3 => jM_bringBack_15  a1 X Z s3) ((iz 0), g2)) (fun e6 => ?_)
  exact nx_vret dX8_bringBack_46 rfl rfl
theorem cM_bringBack (l : Launch) {Γ : nx_G} {M0 : nx_M} {m : Nat} {u : Nat} {g : mS} {a1 : Int32} {r : mS}  (h : fM_bringBack u g a1 = some r) : nx_Ct l Γ 1 yX8_bringBack cX8_bringBack 3 none [.ref m, .int a1] (mW Γ M0 m g) (none, (mW Γ M0 m r)) :=
  nx_ct (out := fun r0 : mS => (none, (mW Γ M0 m r0))) [some (.ref m), some (.int a1), none] pn_RX8 h (Nat.le_of_ble_eq_true rfl) rfl (fun X Z _ => jM_bringBack  u g a1 X Z)
theorem dX8_sures_0 : decode cX8_sures 0 = .ok (.aload_n 0, 1) := by decide +kernel
theorem dX8_sures_1 : decode cX8_sures 1 = .ok (.iload_n 1, 1) := by decide +kernel
theorem dX8_sures_2 : decode cX8_sures 2 = .ok (.invokevirtual 235, 3) := by decide +kernel
theorem dX8_sures_5 : decode cX8_sures 5 = .ok (.ifCond .ne 5, 3) := by decide +kernel
theorem dX8_sures_8 : decode cX8_sures 8 = .ok (.iconst (-1), 1) := by decide +kernel
theorem dX8_sures_9 : decode cX8_sures 9 = .ok (.ireturn, 1) := by decide +kernel
theorem dX8_sures_10 : decode cX8_sures 10 = .ok (.aload_n 0, 1) := by decide +kernel
theorem dX8_sures_11 : decode cX8_sures 11 = .ok (.iconst 3, 1) := by decide +kernel
theorem dX8_sures_12 : decode cX8_sures 12 = .ok (.invokevirtual 211, 3) := by decide +kernel
theorem dX8_sures_15 : decode cX8_sures 15 = .ok (.istore_n 2, 1) := by decide +kernel
theorem dX8_sures_16 : decode cX8_sures 16 = .ok (.aload_n 0, 1) := by decide +kernel
theorem dX8_sures_17 : decode cX8_sures 17 = .ok (.iconst 0, 1) := by decide +kernel
theorem dX8_sures_18 : decode cX8_sures 18 = .ok (.invokevirtual 349, 3) := by decide +kernel
theorem dX8_sures_21 : decode cX8_sures 21 = .ok (.aload_n 0, 1) := by decide +kernel
theorem dX8_sures_22 : decode cX8_sures 22 = .ok (.iload_n 1, 1) := by decide +kernel
theorem dX8_sures_23 : decode cX8_sures 23 = .ok (.invokevirtual 299, 3) := by decide +kernel
theorem dX8_sures_26 : decode cX8_sures 26 = .ok (.pop, 1) := by decide +kernel
theorem dX8_sures_27 : decode cX8_sures 27 = .ok (.aload_n 0, 1) := by decide +kernel
theorem dX8_sures_28 : decode cX8_sures 28 = .ok (.iconst 3, 1) := by decide +kernel
theorem dX8_sures_29 : decode cX8_sures 29 = .ok (.invokevirtual 211, 3) := by decide +kernel
theorem dX8_sures_32 : decode cX8_sures 32 = .ok (.iload_n 2, 1) := by decide +kernel
theorem dX8_sures_33 : decode cX8_sures 33 = .ok (.iconst (-1), 1) := by decide +kernel
theorem dX8_sures_34 : decode cX8_sures 34 = .ok (.ixor, 1) := by decide +kernel
theorem dX8_sures_35 : decode cX8_sures 35 = .ok (.iand, 1) := by decide +kernel
theorem dX8_sures_36 : decode cX8_sures 36 = .ok (.istore_n 3, 1) := by decide +kernel
theorem dX8_sures_37 : decode cX8_sures 37 = .ok (.aload_n 0, 1) := by decide +kernel
theorem dX8_sures_38 : decode cX8_sures 38 = .ok (.iconst 0, 1) := by decide +kernel
theorem dX8_sures_39 : decode cX8_sures 39 = .ok (.invokevirtual 352, 3) := by decide +kernel
theorem dX8_sures_42 : decode cX8_sures 42 = .ok (.iload_n 3, 1) := by decide +kernel
theorem dX8_sures_43 : decode cX8_sures 43 = .ok (.ireturn, 1) := by decide +kernel
def fM_sures (u : Nat) (g : mS) (a1 : Int32) : Option (Int32 × mS) :=
  (fM_isActive u g a1).bind fun b1 =>
  if b1 = true then
    (fM_those u g (iz 3)).bind fun x2 =>
    (fM_putAside u g (iz 0)).bind fun g3 =>
    (fM_commitNow u g3 a1).bind fun p4 =>
    (fM_those u p4.2 (iz 3)).bind fun x5 =>
    (fM_bringBack u p4.2 (iz 0)).bind fun g6 =>
    some ((x5 &&& (x2 ^^^ (iz (-1)))), g6)
  else
    some ((iz (-1)), g)
set_option maxRecDepth 4000 in
theorem jM_sures {Γ : nx_G} {M0 : nx_M} {m : Nat} (u : Nat) (g : mS) (a1 : Int32)   (X : nx_X) (Z : nx_Z) : nx_J Γ X (RX8, cX8_sures, 4, (some .int), "sures", 10) Z (fun r0 : Int32 × mS => .inr (some (.int r0.1), (mW Γ M0 m r0.2))) (.inl (0, [some (.ref m), some (.int a1), none, none], [], (mW Γ M0 m g))) (fM_sures u g a1) := by
  unfold fM_sures
  refine nx_aload_n rfl dX8_sures_0 rfl ?_
  refine nx_iload_n rfl dX8_sures_1 rfl ?_
  refine nx_callVr [.int a1] (fun r => .int (bz r)) (fun _ => (mW Γ M0 m g)) cw_8_235 cv_X8_isActive (fun r e => cM_isActive X.2.1  e) mW_m rfl rfl (Nat.le_of_ble_eq_true rfl) (Nat.le_of_ble_eq_true rfl) dX8_sures_2 rfl (fun b1 => ?_)
  refine nx_ifz_ne (t := 10) dX8_sures_5 (by decide) rfl ?_ ?_
  · refine nx_aload_n rfl dX8_sures_10 rfl ?_
    refine nx_iconst dX8_sures_11 rfl ?_
    refine nx_callVr [.int (iz 3)] (fun r => .int r) (fun _ => (mW Γ M0 m g)) cw_8_211 cv_X8_those (fun r e => cM_those X.2.1  e) mW_m rfl rfl (Nat.le_of_ble_eq_true rfl) (Nat.le_of_ble_eq_true rfl) dX8_sures_12 rfl (fun x2 => ?_)
    refine nx_istore_n [some (.ref m), some (.int a1), some (.int x2), none] dX8_sures_15 rfl (Nat.le_of_ble_eq_true rfl) rfl rfl ?_
    refine nx_aload_n rfl dX8_sures_16 rfl ?_
    refine nx_iconst dX8_sures_17 rfl ?_
    refine nx_callVv [.int (iz 0)] (fun r => (mW Γ M0 m r)) cw_8_349 cv_X8_putAside (fun r e => cM_putAside X.2.1  e) mW_m rfl rfl (Nat.le_of_ble_eq_true rfl) (Nat.le_of_ble_eq_true rfl) dX8_sures_18 rfl (fun g3 => ?_)
    refine nx_aload_n rfl dX8_sures_21 rfl ?_
    refine nx_iload_n rfl dX8_sures_22 rfl ?_
    refine nx_callVr [.int a1] (fun r => .int r.1) (fun r => (mW Γ M0 m r.2)) cw_8_299 cv_X8_commitNow (fun r e => cM_commitNow X.2.1  e) mW_m rfl rfl (Nat.le_of_ble_eq_true rfl) (Nat.le_of_ble_eq_true rfl) dX8_sures_23 rfl (fun p4 => ?_)
    refine nx_pop rfl dX8_sures_26 rfl ?_
    refine nx_aload_n rfl dX8_sures_27 rfl ?_
    refine nx_iconst dX8_sures_28 rfl ?_
    refine nx_callVr [.int (iz 3)] (fun r => .int r) (fun _ => (mW Γ M0 m p4.2)) cw_8_211 cv_X8_those (fun r e => cM_those X.2.1  e) mW_m rfl rfl (Nat.le_of_ble_eq_true rfl) (Nat.le_of_ble_eq_true rfl) dX8_sures_29 rfl (fun x5 => ?_)
    refine nx_iload_n rfl dX8_sures_32 rfl ?_
    refine nx_iconst dX8_sures_33 rfl ?_
    refine nx_ixor dX8_sures_34 rfl ?_
    refine nx_iand dX8_sures_35 rfl ?_
    refine nx_istore_n [some (.ref m), some (.int a1), some (.int x2), some (.int (x5 &&& (x2 ^^^ (iz (-1)))))] dX8_sures_36 rfl (Nat.le_of_ble_eq_true rfl) rfl rfl ?_
    refine nx_aload_n rfl dX8_sures_37 rfl ?_
    refine nx_iconst dX8_sures_38 rfl ?_
    refine nx_callVv [.int (iz 0)] (fun r => (mW Γ M0 m r)) cw_8_352 cv_X8_bringBack (fun r e => cM_bringBack X.2.1  e) mW_m rfl rfl (Nat.le_of_ble_eq_true rfl) (Nat.le_of_ble_eq_true rfl) dX8_sures_39 rfl (fun g6 => ?_)
    refine nx_iload_n rfl dX8_sures_42 rfl ?_
    exact nx_iret dX8_sures_43 rfl rfl
  · refine nx_iconst dX8_sures_8 rfl ?_
    exact nx_iret dX8_sures_9 rfl rfl
theorem cM_sures (l : Launch) {Γ : nx_G} {M0 : nx_M} {m : Nat} {u : Nat} {g : mS} {a1 : Int32} {r : Int32 × mS}  (h : fM_sures u g a1 = some r) : nx_Ct l Γ 10 yX8_sures cX8_sures 4 (some .int) [.ref m, .int a1] (mW Γ M0 m g) (some (.int r.1), (mW Γ M0 m r.2)) :=
  nx_ct (out := fun r0 : Int32 × mS => (some (.int r0.1), (mW Γ M0 m r0.2))) [some (.ref m), some (.int a1), none, none] pn_RX8 h (Nat.le_of_ble_eq_true rfl) rfl (fun X Z _ => jM_sures  u g a1 X Z)
theorem dX8_retries_0 : decode cX8_retries 0 = .ok (.aload_n 0, 1) := by decide +kernel
theorem dX8_retries_1 : decode cX8_retries 1 = .ok (.iload_n 1, 1) := by decide +kernel
theorem dX8_retries_2 : decode cX8_retries 2 = .ok (.invokevirtual 162, 3) := by decide +kernel
theorem dX8_retries_5 : decode cX8_retries 5 = .ok (.ifCond .eq 13, 3) := by decide +kernel
theorem dX8_retries_8 : decode cX8_retries 8 = .ok (.aload_n 0, 1) := by decide +kernel
theorem dX8_retries_9 : decode cX8_retries 9 = .ok (.iload_n 1, 1) := by decide +kernel
theorem dX8_retries_10 : decode cX8_retries 10 = .ok (.iconst 0, 1) := by decide +kernel
theorem dX8_retries_11 : decode cX8_retries 11 = .ok (.invokevirtual 165, 3) := by decide +kernel
theorem dX8_retries_14 : decode cX8_retries 14 = .ok (.iconst 4, 1) := by decide +kernel
theorem dX8_retries_15 : decode cX8_retries 15 = .ok (.if_icmp .eq 5, 3) := by decide +kernel
theorem dX8_retries_18 : decode cX8_retries 18 = .ok (.iconst (-1), 1) := by decide +kernel
theorem dX8_retries_19 : decode cX8_retries 19 = .ok (.ireturn, 1) := by decide +kernel
theorem dX8_retries_20 : decode cX8_retries 20 = .ok (.aload_n 0, 1) := by decide +kernel
theorem dX8_retries_21 : decode cX8_retries 21 = .ok (.iconst 0, 1) := by decide +kernel
theorem dX8_retries_22 : decode cX8_retries 22 = .ok (.invokevirtual 349, 3) := by decide +kernel
theorem dX8_retries_25 : decode cX8_retries 25 = .ok (.iconst 0, 1) := by decide +kernel
theorem dX8_retries_26 : decode cX8_retries 26 = .ok (.istore_n 2, 1) := by decide +kernel
theorem dX8_retries_27 : decode cX8_retries 27 = .ok (.aload_n 0, 1) := by decide +kernel
theorem dX8_retries_28 : decode cX8_retries 28 = .ok (.iload_n 1, 1) := by decide +kernel
theorem dX8_retries_29 : decode cX8_retries 29 = .ok (.iconst 0, 1) := by decide +kernel
theorem dX8_retries_30 : decode cX8_retries 30 = .ok (.invokevirtual 165, 3) := by decide +kernel
theorem dX8_retries_33 : decode cX8_retries 33 = .ok (.iconst 4, 1) := by decide +kernel
theorem dX8_retries_34 : decode cX8_retries 34 = .ok (.if_icmp .ne 44, 3) := by decide +kernel
theorem dX8_retries_37 : decode cX8_retries 37 = .ok (.iload_n 2, 1) := by decide +kernel
theorem dX8_retries_38 : decode cX8_retries 38 = .ok (.bipush 9, 2) := by decide +kernel
theorem dX8_retries_40 : decode cX8_retries 40 = .ok (.if_icmp .ge 38, 3) := by decide +kernel
theorem dX8_retries_43 : decode cX8_retries 43 = .ok (.aload_n 0, 1) := by decide +kernel
theorem dX8_retries_44 : decode cX8_retries 44 = .ok (.iload_n 1, 1) := by decide +kernel
theorem dX8_retries_45 : decode cX8_retries 45 = .ok (.invokevirtual 305, 3) := by decide +kernel
theorem dX8_retries_48 : decode cX8_retries 48 = .ok (.iconst (-1), 1) := by decide +kernel
theorem dX8_retries_49 : decode cX8_retries 49 = .ok (.if_icmp .ne 29, 3) := by decide +kernel
theorem dX8_retries_52 : decode cX8_retries 52 = .ok (.aload_n 0, 1) := by decide +kernel
theorem dX8_retries_53 : decode cX8_retries 53 = .ok (.iload_n 1, 1) := by decide +kernel
theorem dX8_retries_54 : decode cX8_retries 54 = .ok (.invokevirtual 308, 3) := by decide +kernel
theorem dX8_retries_57 : decode cX8_retries 57 = .ok (.pop, 1) := by decide +kernel
theorem dX8_retries_58 : decode cX8_retries 58 = .ok (.aload_n 0, 1) := by decide +kernel
theorem dX8_retries_59 : decode cX8_retries 59 = .ok (.iload_n 1, 1) := by decide +kernel
theorem dX8_retries_60 : decode cX8_retries 60 = .ok (.invokevirtual 235, 3) := by decide +kernel
theorem dX8_retries_63 : decode cX8_retries 63 = .ok (.ifCond .eq 9, 3) := by decide +kernel
theorem dX8_retries_66 : decode cX8_retries 66 = .ok (.aload_n 0, 1) := by decide +kernel
theorem dX8_retries_67 : decode cX8_retries 67 = .ok (.iload_n 1, 1) := by decide +kernel
theorem dX8_retries_68 : decode cX8_retries 68 = .ok (.invokevirtual 299, 3) := by decide +kernel
theorem dX8_retries_71 : decode cX8_retries 71 = .ok (.pop, 1) := by decide +kernel
theorem dX8_retries_72 : decode cX8_retries 72 = .ok (.iinc 2 1, 3) := by decide +kernel
theorem dX8_retries_75 : decode cX8_retries 75 = .ok (.goto (-48), 3) := by decide +kernel
theorem dX8_retries_78 : decode cX8_retries 78 = .ok (.aload_n 0, 1) := by decide +kernel
theorem dX8_retries_79 : decode cX8_retries 79 = .ok (.iload_n 1, 1) := by decide +kernel
theorem dX8_retries_80 : decode cX8_retries 80 = .ok (.iconst 0, 1) := by decide +kernel
theorem dX8_retries_81 : decode cX8_retries 81 = .ok (.invokevirtual 165, 3) := by decide +kernel
theorem dX8_retries_84 : decode cX8_retries 84 = .ok (.iconst 4, 1) := by decide +kernel
theorem dX8_retries_85 : decode cX8_retries 85 = .ok (.if_icmp .ne 7, 3) := by decide +kernel
theorem dX8_retries_88 : decode cX8_retries 88 = .ok (.iconst (-1), 1) := by decide +kernel
theorem dX8_retries_89 : decode cX8_retries 89 = .ok (.goto 4, 3) := by decide +kernel
theorem dX8_retries_92 : decode cX8_retries 92 = .ok (.iload_n 2, 1) := by decide +kernel
theorem dX8_retries_93 : decode cX8_retries 93 = .ok (.istore_n 3, 1) := by decide +kernel
theorem dX8_retries_94 : decode cX8_retries 94 = .ok (.aload_n 0, 1) := by decide +kernel
theorem dX8_retries_95 : decode cX8_retries 95 = .ok (.iconst 0, 1) := by decide +kernel
theorem dX8_retries_96 : decode cX8_retries 96 = .ok (.invokevirtual 352, 3) := by decide +kernel
theorem dX8_retries_99 : decode cX8_retries 99 = .ok (.iload_n 3, 1) := by decide +kernel
theorem dX8_retries_100 : decode cX8_retries 100 = .ok (.ireturn, 1) := by decide +kernel
def fM_retries_27 (u : Nat) (a1 : Int32) (s4 : Int32 × mS) : Option ((Int32 × mS) ⊕ (Int32 × mS)) :=
  (fM_of u s4.2 a1 (iz 0)).bind fun x5 =>
  if x5 = (iz 4) then
    if (iz 9) ≤ s4.1 then
      some (.inr (s4.1, s4.2))
    else
      (fM_whyRetry u s4.2 a1).bind fun x6 =>
      if x6 = (iz (-1)) then
        (fM_retryNow u s4.2 a1).bind fun p7 =>
        (fM_isActive u p7.2 a1).bind fun b8 =>
        (if b8 = true then
           (fM_commitNow u p7.2 a1).bind fun p9 =>
           some p9.2
         else
           some p7.2 : Option (mS)).bind fun s10 =>
        some (.inl ((s4.1 + iz 1), s10))
      else
        some (.inr (s4.1, s4.2))
  else
    some (.inr (s4.1, s4.2))
def fM_retries (u : Nat) (g : mS) (a1 : Int32) : Option (Int32 × mS) :=
  (fM_isSeat u g a1).bind fun b1 =>
  if b1 = true then
    (fM_of u g a1 (iz 0)).bind fun x2 =>
    if x2 = (iz 4) then
      (fM_putAside u g (iz 0)).bind fun g3 =>
      (nx_iter u (fM_retries_27 u a1) ((iz 0), g3)).bind fun e11 =>
      (fM_of u e11.2 a1 (iz 0)).bind fun x12 =>
      (if x12 = (iz 4) then
         some (iz (-1))
       else
         some e11.1 : Option (Int32)).bind fun s13 =>
      (fM_bringBack u e11.2 (iz 0)).bind fun g14 =>
      some (s13, g14)
    else
      some ((iz (-1)), g)
  else
    some ((iz (-1)), g)
set_option maxRecDepth 4000 in
theorem jM_retries_27 {Γ : nx_G} {M0 : nx_M} {m : Nat} (u : Nat) (a1 : Int32)   (X : nx_X) (Z : nx_Z) (s4 : Int32 × mS) : nx_J Γ X (RX8, cX8_retries, 4, (some .int), "retries", 10) Z (Sum.elim (fun s4 : Int32 × mS => .inl (27, [some (.ref m), some (.int a1), some (.int s4.1), none], [], (mW Γ M0 m s4.2))) (fun e11 : Int32 × mS => .inl (78, [some (.ref m), some (.int a1), some (.int e11.1), none], [], (mW Γ M0 m e11.2)))) (.inl (27, [some (.ref m), some (.int a1), some (.int s4.1), none], [], (mW Γ M0 m s4.2))) (fM_retries_27 u a1 s4) := by
  unfold fM_retries_27
  refine nx_aload_n rfl dX8_retries_27 rfl ?_
  refine nx_iload_n rfl dX8_retries_28 rfl ?_
  refine nx_iconst dX8_retries_29 rfl ?_
  refine nx_callVr [.int a1, .int (iz 0)] (fun r => .int r) (fun _ => (mW Γ M0 m s4.2)) cw_8_165 cv_X8_of (fun r e => cM_of X.2.1  e) mW_m rfl rfl (Nat.le_of_ble_eq_true rfl) (Nat.le_of_ble_eq_true rfl) dX8_retries_30 rfl (fun x5 => ?_)
  refine nx_iconst dX8_retries_33 rfl ?_
  refine nx_icmp_ne (t := 78) dX8_retries_34 (by decide) rfl ?_ ?_
  · obtain ⟨_, _⟩ := s4
    exact nx_leaf rfl
  · refine nx_iload_n rfl dX8_retries_37 rfl ?_
    refine nx_bipush (by decide +kernel) dX8_retries_38 rfl ?_
    refine nx_icmp_ge (t := 78) dX8_retries_40 (by decide) rfl ?_ ?_
    · obtain ⟨_, _⟩ := s4
      exact nx_leaf rfl
    · refine nx_aload_n rfl dX8_retries_43 rfl ?_
      refine nx_iload_n rfl dX8_retries_44 rfl ?_
      refine nx_callVr [.int a1] (fun r => .int r) (fun _ => (mW Γ M0 m s4.2)) cw_8_305 cv_X8_whyRetry (fun r e => cM_whyRetry X.2.1  e) mW_m rfl rfl (Nat.le_of_ble_eq_true rfl) (Nat.le_of_ble_eq_true rfl) dX8_retries_45 rfl (fun x6 => ?_)
      refine nx_iconst dX8_retries_48 rfl ?_
      refine nx_icmp_ne (t := 78) dX8_retries_49 (by decide) rfl ?_ ?_
      · obtain ⟨_, _⟩ := s4
        exact nx_leaf rfl
      · refine nx_aload_n rfl dX8_retries_52 rfl ?_
        refine nx_iload_n rfl dX8_retries_53 rfl ?_
        refine nx_callVr [.int a1] (fun r => .int r.1) (fun r => (mW Γ M0 m r.2)) cw_8_308 cv_X8_retryNow (fun r e => cM_retryNow X.2.1  e) mW_m rfl rfl (Nat.le_of_ble_eq_true rfl) (Nat.le_of_ble_eq_true rfl) dX8_retries_54 rfl (fun p7 => ?_)
        refine nx_pop rfl dX8_retries_57 rfl ?_
        refine nx_aload_n rfl dX8_retries_58 rfl ?_
        refine nx_iload_n rfl dX8_retries_59 rfl ?_
        refine nx_callVr [.int a1] (fun r => .int (bz r)) (fun _ => (mW Γ M0 m p7.2)) cw_8_235 cv_X8_isActive (fun r e => cM_isActive X.2.1  e) mW_m rfl rfl (Nat.le_of_ble_eq_true rfl) (Nat.le_of_ble_eq_true rfl) dX8_retries_60 rfl (fun b8 => ?_)
        refine nx_seq (C1 := fun s10 : mS => .inl (72, [some (.ref m), some (.int a1), some (.int s4.1), none], [], (mW Γ M0 m s10))) ?_ (fun s10 => ?_)
        · refine nx_ifz_eq (t := 72) dX8_retries_63 (by decide) rfl ?_ ?_
          · obtain ⟨_, _⟩ := s4
            obtain ⟨_, _⟩ := p7
            exact nx_leaf rfl
          · refine nx_aload_n rfl dX8_retries_66 rfl ?_
            refine nx_iload_n rfl dX8_retries_67 rfl ?_
            refine nx_callVr [.int a1] (fun r => .int r.1) (fun r => (mW Γ M0 m r.2)) cw_8_299 cv_X8_commitNow (fun r e => cM_commitNow X.2.1  e) mW_m rfl rfl (Nat.le_of_ble_eq_true rfl) (Nat.le_of_ble_eq_true rfl) dX8_retries_68 rfl (fun p9 => ?_)
            refine nx_pop rfl dX8_retries_71 rfl ?_
            obtain ⟨_, _⟩ := s4
            obtain ⟨_, _⟩ := p9
            exact nx_leaf rfl
        refine nx_iinc [some (.ref m), some (.int a1), some (.int (s4.1 + iz 1)), none] dX8_retries_72 rfl rfl (Nat.le_of_ble_eq_true rfl) rfl rfl ?_
        refine nx_goto (q := 27) dX8_retries_75 (by decide) ?_
        obtain ⟨_, _⟩ := s4
        exact nx_leaf rfl
set_option maxRecDepth 4000 in
theorem jM_retries {Γ : nx_G} {M0 : nx_M} {m : Nat} (u : Nat) (g : mS) (a1 : Int32)   (X : nx_X) (Z : nx_Z) : nx_J Γ X (RX8, cX8_retries, 4, (some .int), "retries", 10) Z (fun r0 : Int32 × mS => .inr (some (.int r0.1), (mW Γ M0 m r0.2))) (.inl (0, [some (.ref m), some (.int a1), none, none], [], (mW Γ M0 m g))) (fM_retries u g a1) := by
  unfold fM_retries
  refine nx_aload_n rfl dX8_retries_0 rfl ?_
  refine nx_iload_n rfl dX8_retries_1 rfl ?_
  refine nx_callVr [.int a1] (fun r => .int (bz r)) (fun _ => (mW Γ M0 m g)) cw_8_162 cv_X8_isSeat (fun r e => cM_isSeat X.2.1  e) mW_m rfl rfl (Nat.le_of_ble_eq_true rfl) (Nat.le_of_ble_eq_true rfl) dX8_retries_2 rfl (fun b1 => ?_)
  refine nx_ifz_eq (t := 18) dX8_retries_5 (by decide) rfl ?_ ?_
  · refine nx_iconst dX8_retries_18 rfl ?_
    exact nx_iret dX8_retries_19 rfl rfl
  · refine nx_aload_n rfl dX8_retries_8 rfl ?_
    refine nx_iload_n rfl dX8_retries_9 rfl ?_
    refine nx_iconst dX8_retries_10 rfl ?_
    refine nx_callVr [.int a1, .int (iz 0)] (fun r => .int r) (fun _ => (mW Γ M0 m g)) cw_8_165 cv_X8_of (fun r e => cM_of X.2.1  e) mW_m rfl rfl (Nat.le_of_ble_eq_true rfl) (Nat.le_of_ble_eq_true rfl) dX8_retries_11 rfl (fun x2 => ?_)
    refine nx_iconst dX8_retries_14 rfl ?_
    refine nx_icmp_eq (t := 20) dX8_retries_15 (by decide) rfl ?_ ?_
    · refine nx_aload_n rfl dX8_retries_20 rfl ?_
      refine nx_iconst dX8_retries_21 rfl ?_
      refine nx_callVv [.int (iz 0)] (fun r => (mW Γ M0 m r)) cw_8_349 cv_X8_putAside (fun r e => cM_putAside X.2.1  e) mW_m rfl rfl (Nat.le_of_ble_eq_true rfl) (Nat.le_of_ble_eq_true rfl) dX8_retries_22 rfl (fun g3 => ?_)
      refine nx_iconst dX8_retries_25 rfl ?_
      refine nx_istore_n [some (.ref m), some (.int a1), some (.int (iz 0)), none] dX8_retries_26 rfl (Nat.le_of_ble_eq_true rfl) rfl rfl ?_
      refine nx_seq (C1 := fun e11 : Int32 × mS => .inl (78, [some (.ref m), some (.int a1), some (.int e11.1), none], [], (mW Γ M0 m e11.2))) (nx_loop (C1 := fun s4 : Int32 × mS => .inl (27, [some (.ref m), some (.int a1), some (.int s4.1), none], [], (mW Γ M0 m s4.2))) (fun s4 => jM_retries_27  u a1 X Z s4) ((iz 0), g3)) (fun e11 => ?_)
      refine nx_aload_n rfl dX8_retries_78 rfl ?_
      refine nx_iload_n rfl dX8_retries_79 rfl ?_
      refine nx_iconst dX8_retries_80 rfl ?_
      refine nx_callVr [.int a1, .int (iz 0)] (fun r => .int r) (fun _ => (mW Γ M0 m e11.2)) cw_8_165 cv_X8_of (fun r e => cM_of X.2.1  e) mW_m rfl rfl (Nat.le_of_ble_eq_true rfl) (Nat.le_of_ble_eq_true rfl) dX8_retries_81 rfl (fun x12 => ?_)
      refine nx_iconst dX8_retries_84 rfl ?_
      refine nx_seq (C1 := fun s13 : Int32 => .inl (93, [some (.ref m), some (.int a1), some (.int e11.1), none], [.int s13], (mW Γ M0 m e11.2))) ?_ (fun s13 => ?_)
      · refine nx_icmp_ne (t := 92) dX8_retries_85 (by decide) rfl ?_ ?_
        · refine nx_iload_n rfl dX8_retries_92 rfl ?_
          obtain ⟨_, _⟩ := e11
          exact nx_leaf rfl
        · refine nx_iconst dX8_retries_88 rfl ?_
          refine nx_goto (q := 93) dX8_retries_89 (by decide) ?_
          obtain ⟨_, _⟩ := e11
          exact nx_leaf rfl
      refine nx_istore_n [some (.ref m), some (.int a1), some (.int e11.1), some (.int s13)] dX8_retries_93 rfl (Nat.le_of_ble_eq_true rfl) rfl rfl ?_
      refine nx_aload_n rfl dX8_retries_94 rfl ?_
      refine nx_iconst dX8_retries_95 rfl ?_
      refine nx_callVv [.int (iz 0)] (fun r => (mW Γ M0 m r)) cw_8_352 cv_X8_bringBack (fun r e => cM_bringBack X.2.1  e) mW_m rfl rfl (Nat.le_of_ble_eq_true rfl) (Nat.le_of_ble_eq_true rfl) dX8_retries_96 rfl (fun g14 => ?_)
      refine nx_iload_n rfl dX8_retries_99 rfl ?_
      exact nx_iret dX8_retries_100 rfl rfl
    · refine nx_iconst dX8_retries_18 rfl ?_
      exact nx_iret dX8_retries_19 rfl rfl
theorem cM_retries (l : Launch) {Γ : nx_G} {M0 : nx_M} {m : Nat} {u : Nat} {g : mS} {a1 : Int32} {r : Int32 × mS}  (h : fM_retries u g a1 = some r) : nx_Ct l Γ 10 yX8_retries cX8_retries 4 (some .int) [.ref m, .int a1] (mW Γ M0 m g) (some (.int r.1), (mW Γ M0 m r.2)) :=
  nx_ct (out := fun r0 : Int32 × mS => (some (.int r0.1), (mW Γ M0 m r0.2))) [some (.ref m), some (.int a1), none, none] pn_RX8 h (Nat.le_of_ble_eq_true rfl) rfl (fun X Z _ => jM_retries  u g a1 X Z)
theorem dX8_asOf_0 : decode cX8_asOf 0 = .ok (.aload_n 0, 1) := by decide +kernel
theorem dX8_asOf_1 : decode cX8_asOf 1 = .ok (.iload_n 1, 1) := by decide +kernel
theorem dX8_asOf_2 : decode cX8_asOf 2 = .ok (.invokevirtual 232, 3) := by decide +kernel
theorem dX8_asOf_5 : decode cX8_asOf 5 = .ok (.ifCond .eq 19, 3) := by decide +kernel
theorem dX8_asOf_8 : decode cX8_asOf 8 = .ok (.iload_n 2, 1) := by decide +kernel
theorem dX8_asOf_9 : decode cX8_asOf 9 = .ok (.aload_n 0, 1) := by decide +kernel
theorem dX8_asOf_10 : decode cX8_asOf 10 = .ok (.getfield 28, 3) := by decide +kernel
theorem dX8_asOf_13 : decode cX8_asOf 13 = .ok (.sipush 607, 3) := by decide +kernel
theorem dX8_asOf_16 : decode cX8_asOf 16 = .ok (.iaload, 1) := by decide +kernel
theorem dX8_asOf_17 : decode cX8_asOf 17 = .ok (.if_icmp .lt 7, 3) := by decide +kernel
theorem dX8_asOf_20 : decode cX8_asOf 20 = .ok (.iload_n 2, 1) := by decide +kernel
theorem dX8_asOf_21 : decode cX8_asOf 21 = .ok (.ifCond .ge 5, 3) := by decide +kernel
theorem dX8_asOf_24 : decode cX8_asOf 24 = .ok (.iconst (-1), 1) := by decide +kernel
theorem dX8_asOf_25 : decode cX8_asOf 25 = .ok (.ireturn, 1) := by decide +kernel
theorem dX8_asOf_26 : decode cX8_asOf 26 = .ok (.iconst (-1), 1) := by decide +kernel
theorem dX8_asOf_27 : decode cX8_asOf 27 = .ok (.istore_n 3, 1) := by decide +kernel
theorem dX8_asOf_28 : decode cX8_asOf 28 = .ok (.iconst 0, 1) := by decide +kernel
theorem dX8_asOf_29 : decode cX8_asOf 29 = .ok (.istore 4, 2) := by decide +kernel
theorem dX8_asOf_31 : decode cX8_asOf 31 = .ok (.iload 4, 2) := by decide +kernel
theorem dX8_asOf_33 : decode cX8_asOf 33 = .ok (.aload_n 0, 1) := by decide +kernel
theorem dX8_asOf_34 : decode cX8_asOf 34 = .ok (.iload_n 1, 1) := by decide +kernel
theorem dX8_asOf_35 : decode cX8_asOf 35 = .ok (.invokevirtual 171, 3) := by decide +kernel
theorem dX8_asOf_38 : decode cX8_asOf 38 = .ok (.if_icmp .ge 46, 3) := by decide +kernel
theorem dX8_asOf_41 : decode cX8_asOf 41 = .ok (.aload_n 0, 1) := by decide +kernel
theorem dX8_asOf_42 : decode cX8_asOf 42 = .ok (.iload_n 1, 1) := by decide +kernel
theorem dX8_asOf_43 : decode cX8_asOf 43 = .ok (.iload 4, 2) := by decide +kernel
theorem dX8_asOf_45 : decode cX8_asOf 45 = .ok (.iconst 1, 1) := by decide +kernel
theorem dX8_asOf_46 : decode cX8_asOf 46 = .ok (.invokevirtual 174, 3) := by decide +kernel
theorem dX8_asOf_49 : decode cX8_asOf 49 = .ok (.iload_n 2, 1) := by decide +kernel
theorem dX8_asOf_50 : decode cX8_asOf 50 = .ok (.if_icmp .gt 26, 3) := by decide +kernel
theorem dX8_asOf_53 : decode cX8_asOf 53 = .ok (.aload_n 0, 1) := by decide +kernel
theorem dX8_asOf_54 : decode cX8_asOf 54 = .ok (.iload_n 1, 1) := by decide +kernel
theorem dX8_asOf_55 : decode cX8_asOf 55 = .ok (.iload 4, 2) := by decide +kernel
theorem dX8_asOf_57 : decode cX8_asOf 57 = .ok (.iconst 4, 1) := by decide +kernel
theorem dX8_asOf_58 : decode cX8_asOf 58 = .ok (.invokevirtual 174, 3) := by decide +kernel
theorem dX8_asOf_61 : decode cX8_asOf 61 = .ok (.iconst (-1), 1) := by decide +kernel
theorem dX8_asOf_62 : decode cX8_asOf 62 = .ok (.if_icmp .ne 14, 3) := by decide +kernel
theorem dX8_asOf_65 : decode cX8_asOf 65 = .ok (.aload_n 0, 1) := by decide +kernel
theorem dX8_asOf_66 : decode cX8_asOf 66 = .ok (.iload_n 1, 1) := by decide +kernel
theorem dX8_asOf_67 : decode cX8_asOf 67 = .ok (.iload 4, 2) := by decide +kernel
theorem dX8_asOf_69 : decode cX8_asOf 69 = .ok (.iconst 2, 1) := by decide +kernel
theorem dX8_asOf_70 : decode cX8_asOf 70 = .ok (.invokevirtual 174, 3) := by decide +kernel
theorem dX8_asOf_73 : decode cX8_asOf 73 = .ok (.goto 4, 3) := by decide +kernel
theorem dX8_asOf_76 : decode cX8_asOf 76 = .ok (.iload_n 3, 1) := by decide +kernel
theorem dX8_asOf_77 : decode cX8_asOf 77 = .ok (.istore_n 3, 1) := by decide +kernel
theorem dX8_asOf_78 : decode cX8_asOf 78 = .ok (.iinc 4 1, 3) := by decide +kernel
theorem dX8_asOf_81 : decode cX8_asOf 81 = .ok (.goto (-50), 3) := by decide +kernel
theorem dX8_asOf_84 : decode cX8_asOf 84 = .ok (.iload_n 3, 1) := by decide +kernel
theorem dX8_asOf_85 : decode cX8_asOf 85 = .ok (.ireturn, 1) := by decide +kernel
def fM_asOf_31 (u : Nat) (g : mS) (a1 : Int32) (a2 : Int32) (s3 : Int32 × Int32) : Option ((Int32 × Int32) ⊕ (Int32)) :=
  (fM_many u g a1).bind fun x4 =>
  if x4 ≤ s3.2 then
    some (.inr s3.1)
  else
    (fM_its u g a1 s3.2 (iz 1)).bind fun x5 =>
    (if a2 < x5 then
       some s3.1
     else
       (fM_its u g a1 s3.2 (iz 4)).bind fun x6 =>
       if x6 = (iz (-1)) then
         (fM_its u g a1 s3.2 (iz 2)).bind fun x7 =>
         some x7
       else
         some s3.1 : Option (Int32)).bind fun s8 =>
    some (.inl (s8, (s3.2 + iz 1)))
def fM_asOf (u : Nat) (g : mS) (a1 : Int32) (a2 : Int32) : Option (Int32) :=
  (fM_isKey u g a1).bind fun b1 =>
  if b1 = true then
    (nx_rd (mlen 7) (g.1 7) (iz 607)).bind fun x2 =>
    if a2 < x2 then
      some (iz (-1))
    else
      if iz 0 ≤ a2 then
        (nx_iter u (fM_asOf_31 u g a1 a2) ((iz (-1)), (iz 0))).bind fun e9 =>
        some e9
      else
        some (iz (-1))
  else
    some (iz (-1))
set_option maxRecDepth 4000 in
theorem jM_asOf_31 {Γ : nx_G} {M0 : nx_M} {m : Nat} (u : Nat) (g : mS) (a1 : Int32) (a2 : Int32)   (X : nx_X) (Z : nx_Z) (s3 : Int32 × Int32) : nx_J Γ X (RX8, cX8_asOf, 5, (some .int), "asOf", 3) Z (Sum.elim (fun s3 : Int32 × Int32 => .inl (31, [some (.ref m), some (.int a1), some (.int a2), some (.int s3.1), some (.int s3.2)], [], (mW Γ M0 m g))) (fun e9 : Int32 => .inl (84, [some (.ref m), some (.int a1), some (.int a2), some (.int e9), none], [], (mW Γ M0 m g)))) (.inl (31, [some (.ref m), some (.int a1), some (.int a2), some (.int s3.1), some (.int s3.2)], [], (mW Γ M0 m g))) (fM_asOf_31 u g a1 a2 s3) := by
  unfold fM_asOf_31
  refine nx_iload rfl dX8_asOf_31 rfl ?_
  refine nx_aload_n rfl dX8_asOf_33 rfl ?_
  refine nx_iload_n rfl dX8_asOf_34 rfl ?_
  refine nx_callVr [.int a1] (fun r => .int r) (fun _ => (mW Γ M0 m g)) cw_8_171 cv_X8_many (fun r e => cM_many X.2.1  e) mW_m rfl rfl (Nat.le_of_ble_eq_true rfl) (Nat.le_of_ble_eq_true rfl) dX8_asOf_35 rfl (fun x4 => ?_)
  refine nx_icmp_ge (t := 84) dX8_asOf_38 (by decide) rfl ?_ ?_
  · refine nx_weak (ls' := [some (.ref m), some (.int a1), some (.int a2), some (.int s3.1), none]) (nx_wk_s (nx_wk_s (nx_wk_s (nx_wk_s (nx_wk_n nx_wk_e))))) ?_
    obtain ⟨_, _⟩ := s3
    exact nx_leaf rfl
  · refine nx_aload_n rfl dX8_asOf_41 rfl ?_
    refine nx_iload_n rfl dX8_asOf_42 rfl ?_
    refine nx_iload rfl dX8_asOf_43 rfl ?_
    refine nx_iconst dX8_asOf_45 rfl ?_
    refine nx_callVr [.int a1, .int s3.2, .int (iz 1)] (fun r => .int r) (fun _ => (mW Γ M0 m g)) cw_8_174 cv_X8_its (fun r e => cM_its X.2.1  e) mW_m rfl rfl (Nat.le_of_ble_eq_true rfl) (Nat.le_of_ble_eq_true rfl) dX8_asOf_46 rfl (fun x5 => ?_)
    refine nx_iload_n rfl dX8_asOf_49 rfl ?_
    refine nx_seq (C1 := fun s8 : Int32 => .inl (77, [some (.ref m), some (.int a1), some (.int a2), some (.int s3.1), some (.int s3.2)], [.int s8], (mW Γ M0 m g))) ?_ (fun s8 => ?_)
    · refine nx_icmp_gt (t := 76) dX8_asOf_50 (by decide) rfl ?_ ?_
      · refine nx_iload_n rfl dX8_asOf_76 rfl ?_
        obtain ⟨_, _⟩ := s3
        exact nx_leaf rfl
      · refine nx_aload_n rfl dX8_asOf_53 rfl ?_
        refine nx_iload_n rfl dX8_asOf_54 rfl ?_
        refine nx_iload rfl dX8_asOf_55 rfl ?_
        refine nx_iconst dX8_asOf_57 rfl ?_
        refine nx_callVr [.int a1, .int s3.2, .int (iz 4)] (fun r => .int r) (fun _ => (mW Γ M0 m g)) cw_8_174 cv_X8_its (fun r e => cM_its X.2.1  e) mW_m rfl rfl (Nat.le_of_ble_eq_true rfl) (Nat.le_of_ble_eq_true rfl) dX8_asOf_58 rfl (fun x6 => ?_)
        refine nx_iconst dX8_asOf_61 rfl ?_
        refine nx_icmp_ne (t := 76) dX8_asOf_62 (by decide) rfl ?_ ?_
        · refine nx_iload_n rfl dX8_asOf_76 rfl ?_
          obtain ⟨_, _⟩ := s3
          exact nx_leaf rfl
        · refine nx_aload_n rfl dX8_asOf_65 rfl ?_
          refine nx_iload_n rfl dX8_asOf_66 rfl ?_
          refine nx_iload rfl dX8_asOf_67 rfl ?_
          refine nx_iconst dX8_asOf_69 rfl ?_
          refine nx_callVr [.int a1, .int s3.2, .int (iz 2)] (fun r => .int r) (fun _ => (mW Γ M0 m g)) cw_8_174 cv_X8_its (fun r e => cM_its X.2.1  e) mW_m rfl rfl (Nat.le_of_ble_eq_true rfl) (Nat.le_of_ble_eq_true rfl) dX8_asOf_70 rfl (fun x7 => ?_)
          refine nx_goto (q := 77) dX8_asOf_73 (by decide) ?_
          obtain ⟨_, _⟩ := s3
          exact nx_leaf rfl
    refine nx_istore_n [some (.ref m), some (.int a1), some (.int a2), some (.int s8), some (.int s3.2)] dX8_asOf_77 rfl (Nat.le_of_ble_eq_true rfl) rfl rfl ?_
    refine nx_iinc [some (.ref m), some (.int a1), some (.int a2), some (.int s8), some (.int (s3.2 + iz 1))] dX8_asOf_78 rfl rfl (Nat.le_of_ble_eq_true rfl) rfl rfl ?_
    refine nx_goto (q := 31) dX8_asOf_81 (by decide) ?_
    obtain ⟨_, _⟩ := s3
    exact nx_leaf rfl
set_option maxRecDepth 4000 in
theorem jM_asOf {Γ : nx_G} {M0 : nx_M} {m : Nat} (u : Nat) (g : mS) (a1 : Int32) (a2 : Int32)   (X : nx_X) (Z : nx_Z) : nx_J Γ X (RX8, cX8_asOf, 5, (some .int), "asOf", 3) Z (fun r0 : Int32 => .inr (some (.int r0), (mW Γ M0 m g))) (.inl (0, [some (.ref m), some (.int a1), some (.int a2), none, none], [], (mW Γ M0 m g))) (fM_asOf u g a1 a2) := by
  unfold fM_asOf
  refine nx_aload_n rfl dX8_asOf_0 rfl ?_
  refine nx_iload_n rfl dX8_asOf_1 rfl ?_
  refine nx_callVr [.int a1] (fun r => .int (bz r)) (fun _ => (mW Γ M0 m g)) cw_8_232 cv_X8_isKey (fun r e => cM_isKey X.2.1  e) mW_m rfl rfl (Nat.le_of_ble_eq_true rfl) (Nat.le_of_ble_eq_true rfl) dX8_asOf_2 rfl (fun b1 => ?_)
  refine nx_ifz_eq (t := 24) dX8_asOf_5 (by decide) rfl ?_ ?_
  · refine nx_iconst dX8_asOf_24 rfl ?_
    exact nx_iret dX8_asOf_25 rfl rfl
  · refine nx_iload_n rfl dX8_asOf_8 rfl ?_
    refine nx_aload_n rfl dX8_asOf_9 rfl ?_
    refine nx_getf fl_8_28 mW_m rfl dX8_asOf_10 rfl ?_
    refine nx_sipush (by decide +kernel) dX8_asOf_13 rfl ?_
    refine m_iald 7 ⟨Nat.le_of_ble_eq_true rfl, Nat.le_of_ble_eq_true rfl⟩ dX8_asOf_16 rfl (fun x2 => ?_)
    refine nx_icmp_lt (t := 24) dX8_asOf_17 (by decide) rfl ?_ ?_
    · refine nx_iconst dX8_asOf_24 rfl ?_
      exact nx_iret dX8_asOf_25 rfl rfl
    · refine nx_iload_n rfl dX8_asOf_20 rfl ?_
      refine nx_if_ge (t := 26) dX8_asOf_21 (by decide) rfl ?_ ?_
      · refine nx_iconst dX8_asOf_26 rfl ?_
        refine nx_istore_n [some (.ref m), some (.int a1), some (.int a2), some (.int (iz (-1))), none] dX8_asOf_27 rfl (Nat.le_of_ble_eq_true rfl) rfl rfl ?_
        refine nx_iconst dX8_asOf_28 rfl ?_
        refine nx_istore [some (.ref m), some (.int a1), some (.int a2), some (.int (iz (-1))), some (.int (iz 0))] dX8_asOf_29 rfl (Nat.le_of_ble_eq_true rfl) rfl rfl ?_
        refine nx_seq (C1 := fun e9 : Int32 => .inl (84, [some (.ref m), some (.int a1), some (.int a2), some (.int e9), none], [], (mW Γ M0 m g))) (nx_loop (C1 := fun s3 : Int32 × Int32 => .inl (31, [some (.ref m), some (.int a1), some (.int a2), some (.int s3.1), some (.int s3.2)], [], (mW Γ M0 m g))) (fun s3 => jM_asOf_31  u g a1 a2 X Z s3) ((iz (-1)), (iz 0))) (fun e9 => ?_)
        refine nx_iload_n rfl dX8_asOf_84 rfl ?_
        exact nx_iret dX8_asOf_85 rfl rfl
      · refine nx_iconst dX8_asOf_24 rfl ?_
        exact nx_iret dX8_asOf_25 rfl rfl
theorem cM_asOf (l : Launch) {Γ : nx_G} {M0 : nx_M} {m : Nat} {u : Nat} {g : mS} {a1 : Int32} {a2 : Int32} {r : Int32}  (h : fM_asOf u g a1 a2 = some r) : nx_Ct l Γ 3 yX8_asOf cX8_asOf 5 (some .int) [.ref m, .int a1, .int a2] (mW Γ M0 m g) (some (.int r), (mW Γ M0 m g)) :=
  nx_ct (out := fun r0 : Int32 => (some (.int r0), (mW Γ M0 m g))) [some (.ref m), some (.int a1), some (.int a2), none, none] pn_RX8 h (Nat.le_of_ble_eq_true rfl) rfl (fun X Z _ => jM_asOf  u g a1 a2 X Z)
theorem dX8_isScript_0 : decode cX8_isScript 0 = .ok (.iload_n 1, 1) := by decide +kernel
theorem dX8_isScript_1 : decode cX8_isScript 1 = .ok (.iconst 0, 1) := by decide +kernel
theorem dX8_isScript_2 : decode cX8_isScript 2 = .ok (.aload_n 0, 1) := by decide +kernel
theorem dX8_isScript_3 : decode cX8_isScript 3 = .ok (.getfield 155, 3) := by decide +kernel
theorem dX8_isScript_6 : decode cX8_isScript 6 = .ok (.iconst 1, 1) := by decide +kernel
theorem dX8_isScript_7 : decode cX8_isScript 7 = .ok (.isub, 1) := by decide +kernel
theorem dX8_isScript_8 : decode cX8_isScript 8 = .ok (.invokestatic 61, 3) := by decide +kernel
theorem dX8_isScript_11 : decode cX8_isScript 11 = .ok (.ireturn, 1) := by decide +kernel
def fM_isScript (u : Nat) (g : mS) (a1 : Int32) : Option (Bool) :=
  (fM_in u a1 (iz 0) ((g.1 0 12) - (iz 1))).bind fun b1 =>
  some b1
set_option maxRecDepth 4000 in
theorem jM_isScript {Γ : nx_G} {M0 : nx_M} {m : Nat} (u : Nat) (g : mS) (a1 : Int32)   (X : nx_X) (Z : nx_Z) : nx_J Γ X (RX8, cX8_isScript, 2, (some .boolean), "isScript", 2) Z (fun r0 : Bool => .inr (some (.int (bz r0)), (mW Γ M0 m g))) (.inl (0, [some (.ref m), some (.int a1)], [], (mW Γ M0 m g))) (fM_isScript u g a1) := by
  unfold fM_isScript
  refine nx_iload_n rfl dX8_isScript_0 rfl ?_
  refine nx_iconst dX8_isScript_1 rfl ?_
  refine nx_aload_n rfl dX8_isScript_2 rfl ?_
  refine nx_getf fl_8_155 mW_m rfl dX8_isScript_3 rfl ?_
  refine nx_iconst dX8_isScript_6 rfl ?_
  refine nx_isub dX8_isScript_7 rfl ?_
  refine nx_callSr [.int a1, .int (iz 0), .int ((g.1 0 12) - (iz 1))] (fun r => .int (bz r)) (fun _ => (mW Γ M0 m g)) cw_8_61 wd_1243 (fun r e => cM_in X.2.1  e) rfl rfl (Nat.le_of_ble_eq_true rfl) (Nat.le_of_ble_eq_true rfl) dX8_isScript_8 rfl (fun b1 => ?_)
  exact nx_zret dX8_isScript_11 rfl rfl
theorem cM_isScript (l : Launch) {Γ : nx_G} {M0 : nx_M} {m : Nat} {u : Nat} {g : mS} {a1 : Int32} {r : Bool}  (h : fM_isScript u g a1 = some r) : nx_Ct l Γ 2 yX8_isScript cX8_isScript 2 (some .boolean) [.ref m, .int a1] (mW Γ M0 m g) (some (.int (bz r)), (mW Γ M0 m g)) :=
  nx_ct (out := fun r0 : Bool => (some (.int (bz r0)), (mW Γ M0 m g))) [some (.ref m), some (.int a1)] pn_RX8 h (Nat.le_of_ble_eq_true rfl) rfl (fun X Z _ => jM_isScript  u g a1 X Z)
theorem dX8_step_0 : decode cX8_step 0 = .ok (.aload_n 0, 1) := by decide +kernel
theorem dX8_step_1 : decode cX8_step 1 = .ok (.iload_n 1, 1) := by decide +kernel
theorem dX8_step_2 : decode cX8_step 2 = .ok (.invokevirtual 355, 3) := by decide +kernel
theorem dX8_step_5 : decode cX8_step 5 = .ok (.ifCond .eq 46, 3) := by decide +kernel
theorem dX8_step_8 : decode cX8_step 8 = .ok (.iload_n 2, 1) := by decide +kernel
theorem dX8_step_9 : decode cX8_step 9 = .ok (.iconst 0, 1) := by decide +kernel
theorem dX8_step_10 : decode cX8_step 10 = .ok (.aload_n 0, 1) := by decide +kernel
theorem dX8_step_11 : decode cX8_step 11 = .ok (.getfield 25, 3) := by decide +kernel
theorem dX8_step_14 : decode cX8_step 14 = .ok (.iload_n 1, 1) := by decide +kernel
theorem dX8_step_15 : decode cX8_step 15 = .ok (.iaload, 1) := by decide +kernel
theorem dX8_step_16 : decode cX8_step 16 = .ok (.iconst 1, 1) := by decide +kernel
theorem dX8_step_17 : decode cX8_step 17 = .ok (.isub, 1) := by decide +kernel
theorem dX8_step_18 : decode cX8_step 18 = .ok (.invokestatic 61, 3) := by decide +kernel
theorem dX8_step_21 : decode cX8_step 21 = .ok (.ifCond .eq 30, 3) := by decide +kernel
theorem dX8_step_24 : decode cX8_step 24 = .ok (.iload_n 3, 1) := by decide +kernel
theorem dX8_step_25 : decode cX8_step 25 = .ok (.iconst 0, 1) := by decide +kernel
theorem dX8_step_26 : decode cX8_step 26 = .ok (.iconst 3, 1) := by decide +kernel
theorem dX8_step_27 : decode cX8_step 27 = .ok (.invokestatic 61, 3) := by decide +kernel
theorem dX8_step_30 : decode cX8_step 30 = .ok (.ifCond .eq 21, 3) := by decide +kernel
theorem dX8_step_33 : decode cX8_step 33 = .ok (.aload_n 0, 1) := by decide +kernel
theorem dX8_step_34 : decode cX8_step 34 = .ok (.getfield 22, 3) := by decide +kernel
theorem dX8_step_37 : decode cX8_step 37 = .ok (.iconst 4, 1) := by decide +kernel
theorem dX8_step_38 : decode cX8_step 38 = .ok (.bipush 16, 2) := by decide +kernel
theorem dX8_step_40 : decode cX8_step 40 = .ok (.iload_n 1, 1) := by decide +kernel
theorem dX8_step_41 : decode cX8_step 41 = .ok (.imul, 1) := by decide +kernel
theorem dX8_step_42 : decode cX8_step 42 = .ok (.iload_n 2, 1) := by decide +kernel
theorem dX8_step_43 : decode cX8_step 43 = .ok (.iadd, 1) := by decide +kernel
theorem dX8_step_44 : decode cX8_step 44 = .ok (.imul, 1) := by decide +kernel
theorem dX8_step_45 : decode cX8_step 45 = .ok (.iload_n 3, 1) := by decide +kernel
theorem dX8_step_46 : decode cX8_step 46 = .ok (.iadd, 1) := by decide +kernel
theorem dX8_step_47 : decode cX8_step 47 = .ok (.iaload, 1) := by decide +kernel
theorem dX8_step_48 : decode cX8_step 48 = .ok (.goto 6, 3) := by decide +kernel
theorem dX8_step_51 : decode cX8_step 51 = .ok (.ldc_w 336, 3) := by decide +kernel
theorem dX8_step_54 : decode cX8_step 54 = .ok (.ireturn, 1) := by decide +kernel
def fM_step (u : Nat) (g : mS) (a1 : Int32) (a2 : Int32) (a3 : Int32) : Option (Int32) :=
  (fM_isScript u g a1).bind fun b1 =>
  if b1 = true then
    (nx_rd (mlen 6) (g.1 6) a1).bind fun x2 =>
    (fM_in u a2 (iz 0) (x2 - (iz 1))).bind fun b3 =>
    if b3 = true then
      (fM_in u a3 (iz 0) (iz 3)).bind fun b4 =>
      if b4 = true then
        (nx_rd (mlen 5) (g.1 5) (((iz 4) * (((iz 16) * a1) + a2)) + a3)).bind fun x5 =>
        some x5
      else
        some ((-1000000) : Int32)
    else
      some ((-1000000) : Int32)
  else
    some ((-1000000) : Int32)
set_option maxRecDepth 4000 in
theorem jM_step {Γ : nx_G} {M0 : nx_M} {m : Nat} (u : Nat) (g : mS) (a1 : Int32) (a2 : Int32) (a3 : Int32)   (X : nx_X) (Z : nx_Z) : nx_J Γ X (RX8, cX8_step, 4, (some .int), "step", 3) Z (fun r0 : Int32 => .inr (some (.int r0), (mW Γ M0 m g))) (.inl (0, [some (.ref m), some (.int a1), some (.int a2), some (.int a3)], [], (mW Γ M0 m g))) (fM_step u g a1 a2 a3) := by
  unfold fM_step
  refine nx_aload_n rfl dX8_step_0 rfl ?_
  refine nx_iload_n rfl dX8_step_1 rfl ?_
  refine nx_callVr [.int a1] (fun r => .int (bz r)) (fun _ => (mW Γ M0 m g)) cw_8_355 cv_X8_isScript (fun r e => cM_isScript X.2.1  e) mW_m rfl rfl (Nat.le_of_ble_eq_true rfl) (Nat.le_of_ble_eq_true rfl) dX8_step_2 rfl (fun b1 => ?_)
  refine nx_ifz_eq (t := 51) dX8_step_5 (by decide) rfl ?_ ?_
  · refine nx_ldcw wd_1580 dX8_step_51 rfl ?_
    exact nx_iret dX8_step_54 rfl rfl
  · refine nx_iload_n rfl dX8_step_8 rfl ?_
    refine nx_iconst dX8_step_9 rfl ?_
    refine nx_aload_n rfl dX8_step_10 rfl ?_
    refine nx_getf fl_8_25 mW_m rfl dX8_step_11 rfl ?_
    refine nx_iload_n rfl dX8_step_14 rfl ?_
    refine m_iald 6 ⟨Nat.le_of_ble_eq_true rfl, Nat.le_of_ble_eq_true rfl⟩ dX8_step_15 rfl (fun x2 => ?_)
    refine nx_iconst dX8_step_16 rfl ?_
    refine nx_isub dX8_step_17 rfl ?_
    refine nx_callSr [.int a2, .int (iz 0), .int (x2 - (iz 1))] (fun r => .int (bz r)) (fun _ => (mW Γ M0 m g)) cw_8_61 wd_1243 (fun r e => cM_in X.2.1  e) rfl rfl (Nat.le_of_ble_eq_true rfl) (Nat.le_of_ble_eq_true rfl) dX8_step_18 rfl (fun b3 => ?_)
    refine nx_ifz_eq (t := 51) dX8_step_21 (by decide) rfl ?_ ?_
    · refine nx_ldcw wd_1580 dX8_step_51 rfl ?_
      exact nx_iret dX8_step_54 rfl rfl
    · refine nx_iload_n rfl dX8_step_24 rfl ?_
      refine nx_iconst dX8_step_25 rfl ?_
      refine nx_iconst dX8_step_26 rfl ?_
      refine nx_callSr [.int a3, .int (iz 0), .int (iz 3)] (fun r => .int (bz r)) (fun _ => (mW Γ M0 m g)) cw_8_61 wd_1243 (fun r e => cM_in X.2.1  e) rfl rfl (Nat.le_of_ble_eq_true rfl) (Nat.le_of_ble_eq_true rfl) dX8_step_27 rfl (fun b4 => ?_)
      refine nx_ifz_eq (t := 51) dX8_step_30 (by decide) rfl ?_ ?_
      · refine nx_ldcw wd_1580 dX8_step_51 rfl ?_
        exact nx_iret dX8_step_54 rfl rfl
      · refine nx_aload_n rfl dX8_step_33 rfl ?_
        refine nx_getf fl_8_22 mW_m rfl dX8_step_34 rfl ?_
        refine nx_iconst dX8_step_37 rfl ?_
        refine nx_bipush (by decide +kernel) dX8_step_38 rfl ?_
        refine nx_iload_n rfl dX8_step_40 rfl ?_
        refine nx_imul dX8_step_41 rfl ?_
        refine nx_iload_n rfl dX8_step_42 rfl ?_
        refine nx_iadd dX8_step_43 rfl ?_
        refine nx_imul dX8_step_44 rfl ?_
        refine nx_iload_n rfl dX8_step_45 rfl ?_
        refine nx_iadd dX8_step_46 rfl ?_
        refine m_iald 5 ⟨Nat.le_of_ble_eq_true rfl, Nat.le_of_ble_eq_true rfl⟩ dX8_step_47 rfl (fun x5 => ?_)
        refine nx_goto (q := 54) dX8_step_48 (by decide) ?_
        exact nx_iret dX8_step_54 rfl rfl
theorem cM_step (l : Launch) {Γ : nx_G} {M0 : nx_M} {m : Nat} {u : Nat} {g : mS} {a1 : Int32} {a2 : Int32} {a3 : Int32} {r : Int32}  (h : fM_step u g a1 a2 a3 = some r) : nx_Ct l Γ 3 yX8_step cX8_step 4 (some .int) [.ref m, .int a1, .int a2, .int a3] (mW Γ M0 m g) (some (.int r), (mW Γ M0 m g)) :=
  nx_ct (out := fun r0 : Int32 => (some (.int r0), (mW Γ M0 m g))) [some (.ref m), some (.int a1), some (.int a2), some (.int a3)] pn_RX8 h (Nat.le_of_ble_eq_true rfl) rfl (fun X Z _ => jM_step  u g a1 a2 a3 X Z)
theorem dX8_doStep_0 : decode cX8_doStep 0 = .ok (.iconst 4, 1) := by decide +kernel
theorem dX8_doStep_1 : decode cX8_doStep 1 = .ok (.bipush 16, 2) := by decide +kernel
theorem dX8_doStep_3 : decode cX8_doStep 3 = .ok (.iload_n 1, 1) := by decide +kernel
theorem dX8_doStep_4 : decode cX8_doStep 4 = .ok (.imul, 1) := by decide +kernel
theorem dX8_doStep_5 : decode cX8_doStep 5 = .ok (.iload_n 2, 1) := by decide +kernel
theorem dX8_doStep_6 : decode cX8_doStep 6 = .ok (.iadd, 1) := by decide +kernel
theorem dX8_doStep_7 : decode cX8_doStep 7 = .ok (.imul, 1) := by decide +kernel
theorem dX8_doStep_8 : decode cX8_doStep 8 = .ok (.istore_n 3, 1) := by decide +kernel
theorem dX8_doStep_9 : decode cX8_doStep 9 = .ok (.aload_n 0, 1) := by decide +kernel
theorem dX8_doStep_10 : decode cX8_doStep 10 = .ok (.aload_n 0, 1) := by decide +kernel
theorem dX8_doStep_11 : decode cX8_doStep 11 = .ok (.getfield 22, 3) := by decide +kernel
theorem dX8_doStep_14 : decode cX8_doStep 14 = .ok (.iload_n 3, 1) := by decide +kernel
theorem dX8_doStep_15 : decode cX8_doStep 15 = .ok (.iaload, 1) := by decide +kernel
theorem dX8_doStep_16 : decode cX8_doStep 16 = .ok (.aload_n 0, 1) := by decide +kernel
theorem dX8_doStep_17 : decode cX8_doStep 17 = .ok (.getfield 22, 3) := by decide +kernel
theorem dX8_doStep_20 : decode cX8_doStep 20 = .ok (.iload_n 3, 1) := by decide +kernel
theorem dX8_doStep_21 : decode cX8_doStep 21 = .ok (.iconst 1, 1) := by decide +kernel
theorem dX8_doStep_22 : decode cX8_doStep 22 = .ok (.iadd, 1) := by decide +kernel
theorem dX8_doStep_23 : decode cX8_doStep 23 = .ok (.iaload, 1) := by decide +kernel
theorem dX8_doStep_24 : decode cX8_doStep 24 = .ok (.aload_n 0, 1) := by decide +kernel
theorem dX8_doStep_25 : decode cX8_doStep 25 = .ok (.getfield 22, 3) := by decide +kernel
theorem dX8_doStep_28 : decode cX8_doStep 28 = .ok (.iload_n 3, 1) := by decide +kernel
theorem dX8_doStep_29 : decode cX8_doStep 29 = .ok (.iconst 2, 1) := by decide +kernel
theorem dX8_doStep_30 : decode cX8_doStep 30 = .ok (.iadd, 1) := by decide +kernel
theorem dX8_doStep_31 : decode cX8_doStep 31 = .ok (.iaload, 1) := by decide +kernel
theorem dX8_doStep_32 : decode cX8_doStep 32 = .ok (.aload_n 0, 1) := by decide +kernel
theorem dX8_doStep_33 : decode cX8_doStep 33 = .ok (.getfield 22, 3) := by decide +kernel
theorem dX8_doStep_36 : decode cX8_doStep 36 = .ok (.iload_n 3, 1) := by decide +kernel
theorem dX8_doStep_37 : decode cX8_doStep 37 = .ok (.iconst 3, 1) := by decide +kernel
theorem dX8_doStep_38 : decode cX8_doStep 38 = .ok (.iadd, 1) := by decide +kernel
theorem dX8_doStep_39 : decode cX8_doStep 39 = .ok (.iaload, 1) := by decide +kernel
theorem dX8_doStep_40 : decode cX8_doStep 40 = .ok (.invokevirtual 329, 3) := by decide +kernel
theorem dX8_doStep_43 : decode cX8_doStep 43 = .ok (.ireturn, 1) := by decide +kernel
def fM_doStep (u : Nat) (g : mS) (a1 : Int32) (a2 : Int32) : Option (Bool × mS) :=
  (nx_rd (mlen 5) (g.1 5) ((iz 4) * (((iz 16) * a1) + a2))).bind fun x1 =>
  (nx_rd (mlen 5) (g.1 5) (((iz 4) * (((iz 16) * a1) + a2)) + (iz 1))).bind fun x2 =>
  (nx_rd (mlen 5) (g.1 5) (((iz 4) * (((iz 16) * a1) + a2)) + (iz 2))).bind fun x3 =>
  (nx_rd (mlen 5) (g.1 5) (((iz 4) * (((iz 16) * a1) + a2)) + (iz 3))).bind fun x4 =>
  (fM_tryOne u g x1 x2 x3 x4).bind fun p5 =>
  some (p5.1, p5.2)
set_option maxRecDepth 4000 in
theorem jM_doStep {Γ : nx_G} {M0 : nx_M} {m : Nat} (u : Nat) (g : mS) (a1 : Int32) (a2 : Int32)   (X : nx_X) (Z : nx_Z) : nx_J Γ X (RX8, cX8_doStep, 4, (some .boolean), "doStep", 12) Z (fun r0 : Bool × mS => .inr (some (.int (bz r0.1)), (mW Γ M0 m r0.2))) (.inl (0, [some (.ref m), some (.int a1), some (.int a2), none], [], (mW Γ M0 m g))) (fM_doStep u g a1 a2) := by
  unfold fM_doStep
  refine nx_iconst dX8_doStep_0 rfl ?_
  refine nx_bipush (by decide +kernel) dX8_doStep_1 rfl ?_
  refine nx_iload_n rfl dX8_doStep_3 rfl ?_
  refine nx_imul dX8_doStep_4 rfl ?_
  refine nx_iload_n rfl dX8_doStep_5 rfl ?_
  refine nx_iadd dX8_doStep_6 rfl ?_
  refine nx_imul dX8_doStep_7 rfl ?_
  refine nx_istore_n [some (.ref m), some (.int a1), some (.int a2), some (.int ((iz 4) * (((iz 16) * a1) + a2)))] dX8_doStep_8 rfl (Nat.le_of_ble_eq_true rfl) rfl rfl ?_
  refine nx_aload_n rfl dX8_doStep_9 rfl ?_
  refine nx_aload_n rfl dX8_doStep_10 rfl ?_
  refine nx_getf fl_8_22 mW_m rfl dX8_doStep_11 rfl ?_
  refine nx_iload_n rfl dX8_doStep_14 rfl ?_
  refine m_iald 5 ⟨Nat.le_of_ble_eq_true rfl, Nat.le_of_ble_eq_true rfl⟩ dX8_doStep_15 rfl (fun x1 => ?_)
  refine nx_aload_n rfl dX8_doStep_16 rfl ?_
  refine nx_getf fl_8_22 mW_m rfl dX8_doStep_17 rfl ?_
  refine nx_iload_n rfl dX8_doStep_20 rfl ?_
  refine nx_iconst dX8_doStep_21 rfl ?_
  refine nx_iadd dX8_doStep_22 rfl ?_
  refine m_iald 5 ⟨Nat.le_of_ble_eq_true rfl, Nat.le_of_ble_eq_true rfl⟩ dX8_doStep_23 rfl (fun x2 => ?_)
  refine nx_aload_n rfl dX8_doStep_24 rfl ?_
  refine nx_getf fl_8_22 mW_m rfl dX8_doStep_25 rfl ?_
  refine nx_iload_n rfl dX8_doStep_28 rfl ?_
  refine nx_iconst dX8_doStep_29 rfl ?_
  refine nx_iadd dX8_doStep_30 rfl ?_
  refine m_iald 5 ⟨Nat.le_of_ble_eq_true rfl, Nat.le_of_ble_eq_true rfl⟩ dX8_doStep_31 rfl (fun x3 => ?_)
  refine nx_aload_n rfl dX8_doStep_32 rfl ?_
  refine nx_getf fl_8_22 mW_m rfl dX8_doStep_33 rfl ?_
  refine nx_iload_n rfl dX8_doStep_36 rfl ?_
  refine nx_iconst dX8_doStep_37 rfl ?_
  refine nx_iadd dX8_doStep_38 rfl ?_
  refine m_iald 5 ⟨Nat.le_of_ble_eq_true rfl, Nat.le_of_ble_eq_true rfl⟩ dX8_doStep_39 rfl (fun x4 => ?_)
  refine nx_callVr [.int x1, .int x2, .int x3, .int x4] (fun r => .int (bz r.1)) (fun r => (mW Γ M0 m r.2)) cw_8_329 cv_X8_tryOne (fun r e => cM_tryOne X.2.1  e) mW_m rfl rfl (Nat.le_of_ble_eq_true rfl) (Nat.le_of_ble_eq_true rfl) dX8_doStep_40 rfl (fun p5 => ?_)
  exact nx_zret dX8_doStep_43 rfl rfl
theorem cM_doStep (l : Launch) {Γ : nx_G} {M0 : nx_M} {m : Nat} {u : Nat} {g : mS} {a1 : Int32} {a2 : Int32} {r : Bool × mS}  (h : fM_doStep u g a1 a2 = some r) : nx_Ct l Γ 12 yX8_doStep cX8_doStep 4 (some .boolean) [.ref m, .int a1, .int a2] (mW Γ M0 m g) (some (.int (bz r.1)), (mW Γ M0 m r.2)) :=
  nx_ct (out := fun r0 : Bool × mS => (some (.int (bz r0.1)), (mW Γ M0 m r0.2))) [some (.ref m), some (.int a1), some (.int a2), none] pn_RX8 h (Nat.le_of_ble_eq_true rfl) rfl (fun X Z _ => jM_doStep  u g a1 a2 X Z)
theorem dX8_goSteps_0 : decode cX8_goSteps 0 = .ok (.iconst 0, 1) := by decide +kernel
theorem dX8_goSteps_1 : decode cX8_goSteps 1 = .ok (.istore_n 2, 1) := by decide +kernel
theorem dX8_goSteps_2 : decode cX8_goSteps 2 = .ok (.iload_n 2, 1) := by decide +kernel
theorem dX8_goSteps_3 : decode cX8_goSteps 3 = .ok (.aload_n 0, 1) := by decide +kernel
theorem dX8_goSteps_4 : decode cX8_goSteps 4 = .ok (.getfield 25, 3) := by decide +kernel
theorem dX8_goSteps_7 : decode cX8_goSteps 7 = .ok (.iload_n 1, 1) := by decide +kernel
theorem dX8_goSteps_8 : decode cX8_goSteps 8 = .ok (.iaload, 1) := by decide +kernel
theorem dX8_goSteps_9 : decode cX8_goSteps 9 = .ok (.if_icmp .ge 18, 3) := by decide +kernel
theorem dX8_goSteps_12 : decode cX8_goSteps 12 = .ok (.aload_n 0, 1) := by decide +kernel
theorem dX8_goSteps_13 : decode cX8_goSteps 13 = .ok (.iload_n 1, 1) := by decide +kernel
theorem dX8_goSteps_14 : decode cX8_goSteps 14 = .ok (.iload_n 2, 1) := by decide +kernel
theorem dX8_goSteps_15 : decode cX8_goSteps 15 = .ok (.invokevirtual 358, 3) := by decide +kernel
theorem dX8_goSteps_18 : decode cX8_goSteps 18 = .ok (.ifCond .eq 9, 3) := by decide +kernel
theorem dX8_goSteps_21 : decode cX8_goSteps 21 = .ok (.iinc 2 1, 3) := by decide +kernel
theorem dX8_goSteps_24 : decode cX8_goSteps 24 = .ok (.goto (-22), 3) := by decide +kernel
theorem dX8_goSteps_27 : decode cX8_goSteps 27 = .ok (.iload_n 2, 1) := by decide +kernel
theorem dX8_goSteps_28 : decode cX8_goSteps 28 = .ok (.ireturn, 1) := by decide +kernel
def fM_goSteps_2 (u : Nat) (a1 : Int32) (s1 : Int32 × mS) : Option ((Int32 × mS) ⊕ (Int32 × mS)) :=
  (nx_rd (mlen 6) (s1.2.1 6) a1).bind fun x2 =>
  if x2 ≤ s1.1 then
    some (.inr (s1.1, s1.2))
  else
    (fM_doStep u s1.2 a1 s1.1).bind fun p3 =>
    if p3.1 = true then
      some (.inl ((s1.1 + iz 1), p3.2))
    else
      some (.inr (s1.1, p3.2))
def fM_goSteps (u : Nat) (g : mS) (a1 : Int32) : Option (Int32 × mS) :=
  (nx_iter u (fM_goSteps_2 u a1) ((iz 0), g)).bind fun e4 =>
  some (e4.1, e4.2)
set_option maxRecDepth 4000 in
theorem jM_goSteps_2 {Γ : nx_G} {M0 : nx_M} {m : Nat} (u : Nat) (a1 : Int32)   (X : nx_X) (Z : nx_Z) (s1 : Int32 × mS) : nx_J Γ X (RX8, cX8_goSteps, 3, (some .int), "goSteps", 13) Z (Sum.elim (fun s1 : Int32 × mS => .inl (2, [some (.ref m), some (.int a1), some (.int s1.1)], [], (mW Γ M0 m s1.2))) (fun e4 : Int32 × mS => .inl (27, [some (.ref m), some (.int a1), some (.int e4.1)], [], (mW Γ M0 m e4.2)))) (.inl (2, [some (.ref m), some (.int a1), some (.int s1.1)], [], (mW Γ M0 m s1.2))) (fM_goSteps_2 u a1 s1) := by
  unfold fM_goSteps_2
  refine nx_iload_n rfl dX8_goSteps_2 rfl ?_
  refine nx_aload_n rfl dX8_goSteps_3 rfl ?_
  refine nx_getf fl_8_25 mW_m rfl dX8_goSteps_4 rfl ?_
  refine nx_iload_n rfl dX8_goSteps_7 rfl ?_
  refine m_iald 6 ⟨Nat.le_of_ble_eq_true rfl, Nat.le_of_ble_eq_true rfl⟩ dX8_goSteps_8 rfl (fun x2 => ?_)
  refine nx_icmp_ge (t := 27) dX8_goSteps_9 (by decide) rfl ?_ ?_
  · obtain ⟨_, _⟩ := s1
    exact nx_leaf rfl
  · refine nx_aload_n rfl dX8_goSteps_12 rfl ?_
    refine nx_iload_n rfl dX8_goSteps_13 rfl ?_
    refine nx_iload_n rfl dX8_goSteps_14 rfl ?_
    refine nx_callVr [.int a1, .int s1.1] (fun r => .int (bz r.1)) (fun r => (mW Γ M0 m r.2)) cw_8_358 cv_X8_doStep (fun r e => cM_doStep X.2.1  e) mW_m rfl rfl (Nat.le_of_ble_eq_true rfl) (Nat.le_of_ble_eq_true rfl) dX8_goSteps_15 rfl (fun p3 => ?_)
    refine nx_ifz_eq (t := 27) dX8_goSteps_18 (by decide) rfl ?_ ?_
    · obtain ⟨_, _⟩ := s1
      obtain ⟨_, _⟩ := p3
      exact nx_leaf rfl
    · refine nx_iinc [some (.ref m), some (.int a1), some (.int (s1.1 + iz 1))] dX8_goSteps_21 rfl rfl (Nat.le_of_ble_eq_true rfl) rfl rfl ?_
      refine nx_goto (q := 2) dX8_goSteps_24 (by decide) ?_
      obtain ⟨_, _⟩ := s1
      obtain ⟨_, _⟩ := p3
      exact nx_leaf rfl
set_option maxRecDepth 4000 in
theorem jM_goSteps {Γ : nx_G} {M0 : nx_M} {m : Nat} (u : Nat) (g : mS) (a1 : Int32)   (X : nx_X) (Z : nx_Z) : nx_J Γ X (RX8, cX8_goSteps, 3, (some .int), "goSteps", 13) Z (fun r0 : Int32 × mS => .inr (some (.int r0.1), (mW Γ M0 m r0.2))) (.inl (0, [some (.ref m), some (.int a1), none], [], (mW Γ M0 m g))) (fM_goSteps u g a1) := by
  unfold fM_goSteps
  refine nx_iconst dX8_goSteps_0 rfl ?_
  refine nx_istore_n [some (.ref m), some (.int a1), some (.int (iz 0))] dX8_goSteps_1 rfl (Nat.le_of_ble_eq_true rfl) rfl rfl ?_
  refine nx_seq (C1 := fun e4 : Int32 × mS => .inl (27, [some (.ref m), some (.int a1), some (.int e4.1)], [], (mW Γ M0 m e4.2))) (nx_loop (C1 := fun s1 : Int32 × mS => .inl (2, [some (.ref m), some (.int a1), some (.int s1.1)], [], (mW Γ M0 m s1.2))) (fun s1 => jM_goSteps_2  u a1 X Z s1) ((iz 0), g)) (fun e4 => ?_)
  refine nx_iload_n rfl dX8_goSteps_27 rfl ?_
  exact nx_iret dX8_goSteps_28 rfl rfl
theorem cM_goSteps (l : Launch) {Γ : nx_G} {M0 : nx_M} {m : Nat} {u : Nat} {g : mS} {a1 : Int32} {r : Int32 × mS}  (h : fM_goSteps u g a1 = some r) : nx_Ct l Γ 13 yX8_goSteps cX8_goSteps 3 (some .int) [.ref m, .int a1] (mW Γ M0 m g) (some (.int r.1), (mW Γ M0 m r.2)) :=
  nx_ct (out := fun r0 : Int32 × mS => (some (.int r0.1), (mW Γ M0 m r0.2))) [some (.ref m), some (.int a1), none] pn_RX8 h (Nat.le_of_ble_eq_true rfl) rfl (fun X Z _ => jM_goSteps  u g a1 X Z)
