theorem dX8_run_0 : decode cX8_run 0 = .ok (.aload_n 0, 1) := by decide +kernel
theorem dX8_run_1 : decode cX8_run 1 = .ok (.iload_n 1, 1) := by decide +kernel
theorem dX8_run_2 : decode cX8_run 2 = .ok (.invokevirtual 355, 3) := by decide +kernel
theorem dX8_run_5 : decode cX8_run 5 = .ok (.ifCond .eq 19, 3) := by decide +kernel
theorem dX8_run_8 : decode cX8_run 8 = .ok (.aload_n 0, 1) := by decide +kernel
theorem dX8_run_9 : decode cX8_run 9 = .ok (.invokevirtual 158, 3) := by decide +kernel
theorem dX8_run_12 : decode cX8_run 12 = .ok (.ifCond .eq 12, 3) := by decide +kernel
theorem dX8_run_15 : decode cX8_run 15 = .ok (.iload_n 2, 1) := by decide +kernel
theorem dX8_run_16 : decode cX8_run 16 = .ok (.iconst 0, 1) := by decide +kernel
theorem dX8_run_17 : decode cX8_run 17 = .ok (.iconst 1, 1) := by decide +kernel
theorem dX8_run_18 : decode cX8_run 18 = .ok (.invokestatic 61, 3) := by decide +kernel
theorem dX8_run_21 : decode cX8_run 21 = .ok (.ifCond .ne 7, 3) := by decide +kernel
theorem dX8_run_24 : decode cX8_run 24 = .ok (.ldc_w 336, 3) := by decide +kernel
theorem dX8_run_27 : decode cX8_run 27 = .ok (.ireturn, 1) := by decide +kernel
theorem dX8_run_28 : decode cX8_run 28 = .ok (.aload_n 0, 1) := by decide +kernel
theorem dX8_run_29 : decode cX8_run 29 = .ok (.iconst 0, 1) := by decide +kernel
theorem dX8_run_30 : decode cX8_run 30 = .ok (.invokevirtual 349, 3) := by decide +kernel
theorem dX8_run_33 : decode cX8_run 33 = .ok (.aload_n 0, 1) := by decide +kernel
theorem dX8_run_34 : decode cX8_run 34 = .ok (.iload_n 1, 1) := by decide +kernel
theorem dX8_run_35 : decode cX8_run 35 = .ok (.invokevirtual 361, 3) := by decide +kernel
theorem dX8_run_38 : decode cX8_run 38 = .ok (.istore_n 3, 1) := by decide +kernel
theorem dX8_run_39 : decode cX8_run 39 = .ok (.aload_n 0, 1) := by decide +kernel
theorem dX8_run_40 : decode cX8_run 40 = .ok (.iconst 3, 1) := by decide +kernel
theorem dX8_run_41 : decode cX8_run 41 = .ok (.invokevirtual 211, 3) := by decide +kernel
theorem dX8_run_44 : decode cX8_run 44 = .ok (.invokestatic 260, 3) := by decide +kernel
theorem dX8_run_47 : decode cX8_run 47 = .ok (.istore 4, 2) := by decide +kernel
theorem dX8_run_49 : decode cX8_run 49 = .ok (.aload_n 0, 1) := by decide +kernel
theorem dX8_run_50 : decode cX8_run 50 = .ok (.iconst 0, 1) := by decide +kernel
theorem dX8_run_51 : decode cX8_run 51 = .ok (.invokevirtual 352, 3) := by decide +kernel
theorem dX8_run_54 : decode cX8_run 54 = .ok (.iload_n 2, 1) := by decide +kernel
theorem dX8_run_55 : decode cX8_run 55 = .ok (.iconst 1, 1) := by decide +kernel
theorem dX8_run_56 : decode cX8_run 56 = .ok (.if_icmp .ne 8, 3) := by decide +kernel
theorem dX8_run_59 : decode cX8_run 59 = .ok (.iload 4, 2) := by decide +kernel
theorem dX8_run_61 : decode cX8_run 61 = .ok (.goto 18, 3) := by decide +kernel
theorem dX8_run_64 : decode cX8_run 64 = .ok (.iload_n 3, 1) := by decide +kernel
theorem dX8_run_65 : decode cX8_run 65 = .ok (.aload_n 0, 1) := by decide +kernel
theorem dX8_run_66 : decode cX8_run 66 = .ok (.getfield 25, 3) := by decide +kernel
theorem dX8_run_69 : decode cX8_run 69 = .ok (.iload_n 1, 1) := by decide +kernel
theorem dX8_run_70 : decode cX8_run 70 = .ok (.iaload, 1) := by decide +kernel
theorem dX8_run_71 : decode cX8_run 71 = .ok (.if_icmp .ne 7, 3) := by decide +kernel
theorem dX8_run_74 : decode cX8_run 74 = .ok (.iconst (-1), 1) := by decide +kernel
theorem dX8_run_75 : decode cX8_run 75 = .ok (.goto 4, 3) := by decide +kernel
theorem dX8_run_78 : decode cX8_run 78 = .ok (.iload_n 3, 1) := by decide +kernel
theorem dX8_run_79 : decode cX8_run 79 = .ok (.ireturn, 1) := by decide +kernel
def fM_run (u : Nat) (g : mS) (a1 : Int32) (a2 : Int32) : Option (Int32 × mS) :=
  (fM_isScript u g a1).bind fun b1 =>
  if b1 = true then
    (fM_isStore u g).bind fun b2 =>
    if b2 = true then
      (fM_in u a2 (iz 0) (iz 1)).bind fun b3 =>
      if b3 = true then
        (fM_putAside u g (iz 0)).bind fun g4 =>
        (fM_goSteps u g4 a1).bind fun p5 =>
        (fM_those u p5.2 (iz 3)).bind fun x6 =>
        (fM_bits u x6).bind fun x7 =>
        (fM_bringBack u p5.2 (iz 0)).bind fun g8 =>
        if a2 = (iz 1) then
          some (x7, g8)
        else
          (nx_rd (mlen 6) (g8.1 6) a1).bind fun x9 =>
          if p5.1 = x9 then
            some ((iz (-1)), g8)
          else
            some (p5.1, g8)
      else
        some (((-1000000) : Int32), g)
    else
      some (((-1000000) : Int32), g)
  else
    some (((-1000000) : Int32), g)
set_option maxRecDepth 4000 in
theorem jM_run {Γ : nx_G} {M0 : nx_M} {m : Nat} (u : Nat) (g : mS) (a1 : Int32) (a2 : Int32)   (X : nx_X) (Z : nx_Z) : nx_J Γ X (RX8, cX8_run, 5, (some .int), "run", 14) Z (fun r0 : Int32 × mS => .inr (some (.int r0.1), (mW Γ M0 m r0.2))) (.inl (0, [some (.ref m), some (.int a1), some (.int a2), none, none], [], (mW Γ M0 m g))) (fM_run u g a1 a2) := by
  unfold fM_run
  refine nx_aload_n rfl dX8_run_0 rfl ?_
  refine nx_iload_n rfl dX8_run_1 rfl ?_
  refine nx_callVr [.int a1] (fun r => .int (bz r)) (fun _ => (mW Γ M0 m g)) cw_8_355 cv_X8_isScript (fun r e => cM_isScript X.2.1  e) mW_m rfl rfl (Nat.le_of_ble_eq_true rfl) (Nat.le_of_ble_eq_true rfl) dX8_run_2 rfl (fun b1 => ?_)
  refine nx_ifz_eq (t := 24) dX8_run_5 (by decide) rfl ?_ ?_
  · refine nx_ldcw wd_1580 dX8_run_24 rfl ?_
    exact nx_iret dX8_run_27 rfl rfl
  · refine nx_aload_n rfl dX8_run_8 rfl ?_
    refine nx_callVr [] (fun r => .int (bz r)) (fun _ => (mW Γ M0 m g)) cw_8_158 cv_X8_isStore (fun r e => cM_isStore X.2.1  e) mW_m rfl rfl (Nat.le_of_ble_eq_true rfl) (Nat.le_of_ble_eq_true rfl) dX8_run_9 rfl (fun b2 => ?_)
    refine nx_ifz_eq (t := 24) dX8_run_12 (by decide) rfl ?_ ?_
    · refine nx_ldcw wd_1580 dX8_run_24 rfl ?_
      exact nx_iret dX8_run_27 rfl rfl
    · refine nx_iload_n rfl dX8_run_15 rfl ?_
      refine nx_iconst dX8_run_16 rfl ?_
      refine nx_iconst dX8_run_17 rfl ?_
      refine nx_callSr [.int a2, .int (iz 0), .int (iz 1)] (fun r => .int (bz r)) (fun _ => (mW Γ M0 m g)) cw_8_61 wd_1243 (fun r e => cM_in X.2.1  e) rfl rfl (Nat.le_of_ble_eq_true rfl) (Nat.le_of_ble_eq_true rfl) dX8_run_18 rfl (fun b3 => ?_)
      refine nx_ifz_ne (t := 28) dX8_run_21 (by decide) rfl ?_ ?_
      · refine nx_aload_n rfl dX8_run_28 rfl ?_
        refine nx_iconst dX8_run_29 rfl ?_
        refine nx_callVv [.int (iz 0)] (fun r => (mW Γ M0 m r)) cw_8_349 cv_X8_putAside (fun r e => cM_putAside X.2.1  e) mW_m rfl rfl (Nat.le_of_ble_eq_true rfl) (Nat.le_of_ble_eq_true rfl) dX8_run_30 rfl (fun g4 => ?_)
        refine nx_aload_n rfl dX8_run_33 rfl ?_
        refine nx_iload_n rfl dX8_run_34 rfl ?_
        refine nx_callVr [.int a1] (fun r => .int r.1) (fun r => (mW Γ M0 m r.2)) cw_8_361 cv_X8_goSteps (fun r e => cM_goSteps X.2.1  e) mW_m rfl rfl (Nat.le_of_ble_eq_true rfl) (Nat.le_of_ble_eq_true rfl) dX8_run_35 rfl (fun p5 => ?_)
        refine nx_istore_n [some (.ref m), some (.int a1), some (.int a2), some (.int p5.1), none] dX8_run_38 rfl (Nat.le_of_ble_eq_true rfl) rfl rfl ?_
        refine nx_aload_n rfl dX8_run_39 rfl ?_
        refine nx_iconst dX8_run_40 rfl ?_
        refine nx_callVr [.int (iz 3)] (fun r => .int r) (fun _ => (mW Γ M0 m p5.2)) cw_8_211 cv_X8_those (fun r e => cM_those X.2.1  e) mW_m rfl rfl (Nat.le_of_ble_eq_true rfl) (Nat.le_of_ble_eq_true rfl) dX8_run_41 rfl (fun x6 => ?_)
        refine nx_callSr [.int x6] (fun r => .int r) (fun _ => (mW Γ M0 m p5.2)) cw_8_260 wd_1488 (fun r e => cM_bits X.2.1  e) rfl rfl (Nat.le_of_ble_eq_true rfl) (Nat.le_of_ble_eq_true rfl) dX8_run_44 rfl (fun x7 => ?_)
        refine nx_istore [some (.ref m), some (.int a1), some (.int a2), some (.int p5.1), some (.int x7)] dX8_run_47 rfl (Nat.le_of_ble_eq_true rfl) rfl rfl ?_
        refine nx_aload_n rfl dX8_run_49 rfl ?_
        refine nx_iconst dX8_run_50 rfl ?_
        refine nx_callVv [.int (iz 0)] (fun r => (mW Γ M0 m r)) cw_8_352 cv_X8_bringBack (fun r e => cM_bringBack X.2.1  e) mW_m rfl rfl (Nat.le_of_ble_eq_true rfl) (Nat.le_of_ble_eq_true rfl) dX8_run_51 rfl (fun g8 => ?_)
        refine nx_iload_n rfl dX8_run_54 rfl ?_
        refine nx_iconst dX8_run_55 rfl ?_
        refine nx_icmp_ne (t := 64) dX8_run_56 (by decide) rfl ?_ ?_
        · refine nx_iload_n rfl dX8_run_64 rfl ?_
          refine nx_aload_n rfl dX8_run_65 rfl ?_
          refine nx_getf fl_8_25 mW_m rfl dX8_run_66 rfl ?_
          refine nx_iload_n rfl dX8_run_69 rfl ?_
          refine m_iald 6 ⟨Nat.le_of_ble_eq_true rfl, Nat.le_of_ble_eq_true rfl⟩ dX8_run_70 rfl (fun x9 => ?_)
          refine nx_icmp_ne (t := 78) dX8_run_71 (by decide) rfl ?_ ?_
          · refine nx_iload_n rfl dX8_run_78 rfl ?_
            exact nx_iret dX8_run_79 rfl rfl
          · refine nx_iconst dX8_run_74 rfl ?_
            refine nx_goto (q := 79) dX8_run_75 (by decide) ?_
            exact nx_iret dX8_run_79 rfl rfl
        · refine nx_iload rfl dX8_run_59 rfl ?_
          refine nx_goto (q := 79) dX8_run_61 (by decide) ?_
          exact nx_iret dX8_run_79 rfl rfl
      · refine nx_ldcw wd_1580 dX8_run_24 rfl ?_
        exact nx_iret dX8_run_27 rfl rfl
theorem cM_run (l : Launch) {Γ : nx_G} {M0 : nx_M} {m : Nat} {u : Nat} {g : mS} {a1 : Int32} {a2 : Int32} {r : Int32 × mS}  (h : fM_run u g a1 a2 = some r) : nx_Ct l Γ 14 yX8_run cX8_run 5 (some .int) [.ref m, .int a1, .int a2] (mW Γ M0 m g) (some (.int r.1), (mW Γ M0 m r.2)) :=
  nx_ct (out := fun r0 : Int32 × mS => (some (.int r0.1), (mW Γ M0 m r0.2))) [some (.ref m), some (.int a1), some (.int a2), none, none] pn_RX8 h (Nat.le_of_ble_eq_true rfl) rfl (fun X Z _ => jM_run  u g a1 a2 X Z)
theorem dX8_perform_0 : decode cX8_perform 0 = .ok (.aload_n 0, 1) := by decide +kernel
theorem dX8_perform_1 : decode cX8_perform 1 = .ok (.iload_n 1, 1) := by decide +kernel
theorem dX8_perform_2 : decode cX8_perform 2 = .ok (.invokevirtual 355, 3) := by decide +kernel
theorem dX8_perform_5 : decode cX8_perform 5 = .ok (.ifCond .eq 18, 3) := by decide +kernel
theorem dX8_perform_8 : decode cX8_perform 8 = .ok (.aload_n 0, 1) := by decide +kernel
theorem dX8_perform_9 : decode cX8_perform 9 = .ok (.invokevirtual 158, 3) := by decide +kernel
theorem dX8_perform_12 : decode cX8_perform 12 = .ok (.ifCond .eq 11, 3) := by decide +kernel
theorem dX8_perform_15 : decode cX8_perform 15 = .ok (.aload_n 0, 1) := by decide +kernel
theorem dX8_perform_16 : decode cX8_perform 16 = .ok (.iload_n 1, 1) := by decide +kernel
theorem dX8_perform_17 : decode cX8_perform 17 = .ok (.invokevirtual 361, 3) := by decide +kernel
theorem dX8_perform_20 : decode cX8_perform 20 = .ok (.goto 4, 3) := by decide +kernel
theorem dX8_perform_23 : decode cX8_perform 23 = .ok (.iconst (-1), 1) := by decide +kernel
theorem dX8_perform_24 : decode cX8_perform 24 = .ok (.ireturn, 1) := by decide +kernel
def fM_perform (u : Nat) (g : mS) (a1 : Int32) : Option (Int32 × mS) :=
  (fM_isScript u g a1).bind fun b1 =>
  if b1 = true then
    (fM_isStore u g).bind fun b2 =>
    if b2 = true then
      (fM_goSteps u g a1).bind fun p3 =>
      some (p3.1, p3.2)
    else
      some ((iz (-1)), g)
  else
    some ((iz (-1)), g)
set_option maxRecDepth 4000 in
theorem jM_perform {Γ : nx_G} {M0 : nx_M} {m : Nat} (u : Nat) (g : mS) (a1 : Int32)   (X : nx_X) (Z : nx_Z) : nx_J Γ X (RX8, cX8_perform, 2, (some .int), "perform", 14) Z (fun r0 : Int32 × mS => .inr (some (.int r0.1), (mW Γ M0 m r0.2))) (.inl (0, [some (.ref m), some (.int a1)], [], (mW Γ M0 m g))) (fM_perform u g a1) := by
  unfold fM_perform
  refine nx_aload_n rfl dX8_perform_0 rfl ?_
  refine nx_iload_n rfl dX8_perform_1 rfl ?_
  refine nx_callVr [.int a1] (fun r => .int (bz r)) (fun _ => (mW Γ M0 m g)) cw_8_355 cv_X8_isScript (fun r e => cM_isScript X.2.1  e) mW_m rfl rfl (Nat.le_of_ble_eq_true rfl) (Nat.le_of_ble_eq_true rfl) dX8_perform_2 rfl (fun b1 => ?_)
  refine nx_ifz_eq (t := 23) dX8_perform_5 (by decide) rfl ?_ ?_
  · refine nx_iconst dX8_perform_23 rfl ?_
    exact nx_iret dX8_perform_24 rfl rfl
  · refine nx_aload_n rfl dX8_perform_8 rfl ?_
    refine nx_callVr [] (fun r => .int (bz r)) (fun _ => (mW Γ M0 m g)) cw_8_158 cv_X8_isStore (fun r e => cM_isStore X.2.1  e) mW_m rfl rfl (Nat.le_of_ble_eq_true rfl) (Nat.le_of_ble_eq_true rfl) dX8_perform_9 rfl (fun b2 => ?_)
    refine nx_ifz_eq (t := 23) dX8_perform_12 (by decide) rfl ?_ ?_
    · refine nx_iconst dX8_perform_23 rfl ?_
      exact nx_iret dX8_perform_24 rfl rfl
    · refine nx_aload_n rfl dX8_perform_15 rfl ?_
      refine nx_iload_n rfl dX8_perform_16 rfl ?_
      refine nx_callVr [.int a1] (fun r => .int r.1) (fun r => (mW Γ M0 m r.2)) cw_8_361 cv_X8_goSteps (fun r e => cM_goSteps X.2.1  e) mW_m rfl rfl (Nat.le_of_ble_eq_true rfl) (Nat.le_of_ble_eq_true rfl) dX8_perform_17 rfl (fun p3 => ?_)
      refine nx_goto (q := 24) dX8_perform_20 (by decide) ?_
      exact nx_iret dX8_perform_24 rfl rfl
theorem cM_perform (l : Launch) {Γ : nx_G} {M0 : nx_M} {m : Nat} {u : Nat} {g : mS} {a1 : Int32} {r : Int32 × mS}  (h : fM_perform u g a1 = some r) : nx_Ct l Γ 14 yX8_perform cX8_perform 2 (some .int) [.ref m, .int a1] (mW Γ M0 m g) (some (.int r.1), (mW Γ M0 m r.2)) :=
  nx_ct (out := fun r0 : Int32 × mS => (some (.int r0.1), (mW Γ M0 m r0.2))) [some (.ref m), some (.int a1)] pn_RX8 h (Nat.le_of_ble_eq_true rfl) rfl (fun X Z _ => jM_perform  u g a1 X Z)
theorem dX8_sureParts_0 : decode cX8_sureParts 0 = .ok (.iconst 0, 1) := by decide +kernel
theorem dX8_sureParts_1 : decode cX8_sureParts 1 = .ok (.istore_n 2, 1) := by decide +kernel
theorem dX8_sureParts_2 : decode cX8_sureParts 2 = .ok (.iload_n 2, 1) := by decide +kernel
theorem dX8_sureParts_3 : decode cX8_sureParts 3 = .ok (.bipush 8, 2) := by decide +kernel
theorem dX8_sureParts_5 : decode cX8_sureParts 5 = .ok (.if_icmp .ge 25, 3) := by decide +kernel
theorem dX8_sureParts_8 : decode cX8_sureParts 8 = .ok (.aload_n 0, 1) := by decide +kernel
theorem dX8_sureParts_9 : decode cX8_sureParts 9 = .ok (.iload_n 2, 1) := by decide +kernel
theorem dX8_sureParts_10 : decode cX8_sureParts 10 = .ok (.iconst 0, 1) := by decide +kernel
theorem dX8_sureParts_11 : decode cX8_sureParts 11 = .ok (.invokevirtual 165, 3) := by decide +kernel
theorem dX8_sureParts_14 : decode cX8_sureParts 14 = .ok (.iconst 1, 1) := by decide +kernel
theorem dX8_sureParts_15 : decode cX8_sureParts 15 = .ok (.if_icmp .ne 9, 3) := by decide +kernel
theorem dX8_sureParts_18 : decode cX8_sureParts 18 = .ok (.aload_n 0, 1) := by decide +kernel
theorem dX8_sureParts_19 : decode cX8_sureParts 19 = .ok (.iload_n 2, 1) := by decide +kernel
theorem dX8_sureParts_20 : decode cX8_sureParts 20 = .ok (.invokevirtual 299, 3) := by decide +kernel
theorem dX8_sureParts_23 : decode cX8_sureParts 23 = .ok (.pop, 1) := by decide +kernel
theorem dX8_sureParts_24 : decode cX8_sureParts 24 = .ok (.iinc 2 1, 3) := by decide +kernel
theorem dX8_sureParts_27 : decode cX8_sureParts 27 = .ok (.goto (-25), 3) := by decide +kernel
theorem dX8_sureParts_30 : decode cX8_sureParts 30 = .ok (.aload_n 0, 1) := by decide +kernel
theorem dX8_sureParts_31 : decode cX8_sureParts 31 = .ok (.iload_n 1, 1) := by decide +kernel
theorem dX8_sureParts_32 : decode cX8_sureParts 32 = .ok (.iconst 0, 1) := by decide +kernel
theorem dX8_sureParts_33 : decode cX8_sureParts 33 = .ok (.invokevirtual 165, 3) := by decide +kernel
theorem dX8_sureParts_36 : decode cX8_sureParts 36 = .ok (.iconst 3, 1) := by decide +kernel
theorem dX8_sureParts_37 : decode cX8_sureParts 37 = .ok (.if_icmp .ne 7, 3) := by decide +kernel
theorem dX8_sureParts_40 : decode cX8_sureParts 40 = .ok (.iconst 1, 1) := by decide +kernel
theorem dX8_sureParts_41 : decode cX8_sureParts 41 = .ok (.goto 4, 3) := by decide +kernel
theorem dX8_sureParts_44 : decode cX8_sureParts 44 = .ok (.iconst 0, 1) := by decide +kernel
theorem dX8_sureParts_45 : decode cX8_sureParts 45 = .ok (.ireturn, 1) := by decide +kernel
def fM_sureParts_2 (u : Nat) (s1 : Int32 × mS) : Option ((Int32 × mS) ⊕ (mS)) :=
  if (iz 8) ≤ s1.1 then
    some (.inr s1.2)
  else
    (fM_of u s1.2 s1.1 (iz 0)).bind fun x2 =>
    (if x2 = (iz 1) then
       (fM_commitNow u s1.2 s1.1).bind fun p3 =>
       some p3.2
     else
       some s1.2 : Option (mS)).bind fun s4 =>
    some (.inl ((s1.1 + iz 1), s4))
def fM_sureParts (u : Nat) (g : mS) (a1 : Int32) : Option (Int32 × mS) :=
  (nx_iter u (fM_sureParts_2 u) ((iz 0), g)).bind fun e5 =>
  (fM_of u e5 a1 (iz 0)).bind fun x6 =>
  if x6 = (iz 3) then
    some ((iz 1), e5)
  else
    some ((iz 0), e5)
set_option maxRecDepth 4000 in
theorem jM_sureParts_2 {Γ : nx_G} {M0 : nx_M} {m : Nat} (u : Nat) (a1 : Int32)   (X : nx_X) (Z : nx_Z) (s1 : Int32 × mS) : nx_J Γ X (RX8, cX8_sureParts, 3, (some .int), "sureParts", 10) Z (Sum.elim (fun s1 : Int32 × mS => .inl (2, [some (.ref m), some (.int a1), some (.int s1.1)], [], (mW Γ M0 m s1.2))) (fun e5 : mS => .inl (30, [some (.ref m), some (.int a1), none], [], (mW Γ M0 m e5)))) (.inl (2, [some (.ref m), some (.int a1), some (.int s1.1)], [], (mW Γ M0 m s1.2))) (fM_sureParts_2 u s1) := by
  unfold fM_sureParts_2
  refine nx_iload_n rfl dX8_sureParts_2 rfl ?_
  refine nx_bipush (by decide +kernel) dX8_sureParts_3 rfl ?_
  refine nx_icmp_ge (t := 30) dX8_sureParts_5 (by decide) rfl ?_ ?_
  · refine nx_weak (ls' := [some (.ref m), some (.int a1), none]) (nx_wk_s (nx_wk_s (nx_wk_n nx_wk_e))) ?_
    obtain ⟨_, _⟩ := s1
    exact nx_leaf rfl
  · refine nx_aload_n rfl dX8_sureParts_8 rfl ?_
    refine nx_iload_n rfl dX8_sureParts_9 rfl ?_
    refine nx_iconst dX8_sureParts_10 rfl ?_
    refine nx_callVr [.int s1.1, .int (iz 0)] (fun r => .int r) (fun _ => (mW Γ M0 m s1.2)) cw_8_165 cv_X8_of (fun r e => cM_of X.2.1  e) mW_m rfl rfl (Nat.le_of_ble_eq_true rfl) (Nat.le_of_ble_eq_true rfl) dX8_sureParts_11 rfl (fun x2 => ?_)
    refine nx_iconst dX8_sureParts_14 rfl ?_
    refine nx_seq (C1 := fun s4 : mS => .inl (24, [some (.ref m), some (.int a1), some (.int s1.1)], [], (mW Γ M0 m s4))) ?_ (fun s4 => ?_)
    · refine nx_icmp_ne (t := 24) dX8_sureParts_15 (by decide) rfl ?_ ?_
      · obtain ⟨_, _⟩ := s1
        exact nx_leaf rfl
      · refine nx_aload_n rfl dX8_sureParts_18 rfl ?_
        refine nx_iload_n rfl dX8_sureParts_19 rfl ?_
        refine nx_callVr [.int s1.1] (fun r => .int r.1) (fun r => (mW Γ M0 m r.2)) cw_8_299 cv_X8_commitNow (fun r e => cM_commitNow X.2.1  e) mW_m rfl rfl (Nat.le_of_ble_eq_true rfl) (Nat.le_of_ble_eq_true rfl) dX8_sureParts_20 rfl (fun p3 => ?_)
        refine nx_pop rfl dX8_sureParts_23 rfl ?_
        obtain ⟨_, _⟩ := s1
        obtain ⟨_, _⟩ := p3
        exact nx_leaf rfl
    refine nx_iinc [some (.ref m), some (.int a1), some (.int (s1.1 + iz 1))] dX8_sureParts_24 rfl rfl (Nat.le_of_ble_eq_true rfl) rfl rfl ?_
    refine nx_goto (q := 2) dX8_sureParts_27 (by decide) ?_
    obtain ⟨_, _⟩ := s1
    exact nx_leaf rfl
set_option maxRecDepth 4000 in
theorem jM_sureParts {Γ : nx_G} {M0 : nx_M} {m : Nat} (u : Nat) (g : mS) (a1 : Int32)   (X : nx_X) (Z : nx_Z) : nx_J Γ X (RX8, cX8_sureParts, 3, (some .int), "sureParts", 10) Z (fun r0 : Int32 × mS => .inr (some (.int r0.1), (mW Γ M0 m r0.2))) (.inl (0, [some (.ref m), some (.int a1), none], [], (mW Γ M0 m g))) (fM_sureParts u g a1) := by
  unfold fM_sureParts
  refine nx_iconst dX8_sureParts_0 rfl ?_
  refine nx_istore_n [some (.ref m), some (.int a1), some (.int (iz 0))] dX8_sureParts_1 rfl (Nat.le_of_ble_eq_true rfl) rfl rfl ?_
  refine nx_seq (C1 := fun e5 : mS => .inl (30, [some (.ref m), some (.int a1), none], [], (mW Γ M0 m e5))) (nx_loop (C1 := fun s1 : Int32 × mS => .inl (2, [some (.ref m), some (.int a1), some (.int s1.1)], [], (mW Γ M0 m s1.2))) (fun s1 => jM_sureParts_2  u a1 X Z s1) ((iz 0), g)) (fun e5 => ?_)
  refine nx_aload_n rfl dX8_sureParts_30 rfl ?_
  refine nx_iload_n rfl dX8_sureParts_31 rfl ?_
  refine nx_iconst dX8_sureParts_32 rfl ?_
  refine nx_callVr [.int a1, .int (iz 0)] (fun r => .int r) (fun _ => (mW Γ M0 m e5)) cw_8_165 cv_X8_of (fun r e => cM_of X.2.1  e) mW_m rfl rfl (Nat.le_of_ble_eq_true rfl) (Nat.le_of_ble_eq_true rfl) dX8_sureParts_33 rfl (fun x6 => ?_)
  refine nx_iconst dX8_sureParts_36 rfl ?_
  refine nx_icmp_ne (t := 44) dX8_sureParts_37 (by decide) rfl ?_ ?_
  · refine nx_iconst dX8_sureParts_44 rfl ?_
    exact nx_iret dX8_sureParts_45 rfl rfl
  · refine nx_iconst dX8_sureParts_40 rfl ?_
    refine nx_goto (q := 45) dX8_sureParts_41 (by decide) ?_
    exact nx_iret dX8_sureParts_45 rfl rfl
theorem cM_sureParts (l : Launch) {Γ : nx_G} {M0 : nx_M} {m : Nat} {u : Nat} {g : mS} {a1 : Int32} {r : Int32 × mS}  (h : fM_sureParts u g a1 = some r) : nx_Ct l Γ 10 yX8_sureParts cX8_sureParts 3 (some .int) [.ref m, .int a1] (mW Γ M0 m g) (some (.int r.1), (mW Γ M0 m r.2)) :=
  nx_ct (out := fun r0 : Int32 × mS => (some (.int r0.1), (mW Γ M0 m r0.2))) [some (.ref m), some (.int a1), none] pn_RX8 h (Nat.le_of_ble_eq_true rfl) rfl (fun X Z _ => jM_sureParts  u g a1 X Z)
theorem dX8_versionsOfAll_0 : decode cX8_versionsOfAll 0 = .ok (.iconst 0, 1) := by decide +kernel
theorem dX8_versionsOfAll_1 : decode cX8_versionsOfAll 1 = .ok (.istore_n 1, 1) := by decide +kernel
theorem dX8_versionsOfAll_2 : decode cX8_versionsOfAll 2 = .ok (.iconst 0, 1) := by decide +kernel
theorem dX8_versionsOfAll_3 : decode cX8_versionsOfAll 3 = .ok (.istore_n 2, 1) := by decide +kernel
theorem dX8_versionsOfAll_4 : decode cX8_versionsOfAll 4 = .ok (.iload_n 2, 1) := by decide +kernel
theorem dX8_versionsOfAll_5 : decode cX8_versionsOfAll 5 = .ok (.aload_n 0, 1) := by decide +kernel
theorem dX8_versionsOfAll_6 : decode cX8_versionsOfAll 6 = .ok (.getfield 142, 3) := by decide +kernel
theorem dX8_versionsOfAll_9 : decode cX8_versionsOfAll 9 = .ok (.if_icmp .ge 17, 3) := by decide +kernel
theorem dX8_versionsOfAll_12 : decode cX8_versionsOfAll 12 = .ok (.iload_n 1, 1) := by decide +kernel
theorem dX8_versionsOfAll_13 : decode cX8_versionsOfAll 13 = .ok (.aload_n 0, 1) := by decide +kernel
theorem dX8_versionsOfAll_14 : decode cX8_versionsOfAll 14 = .ok (.iload_n 2, 1) := by decide +kernel
theorem dX8_versionsOfAll_15 : decode cX8_versionsOfAll 15 = .ok (.invokevirtual 171, 3) := by decide +kernel
theorem dX8_versionsOfAll_18 : decode cX8_versionsOfAll 18 = .ok (.iadd, 1) := by decide +kernel
theorem dX8_versionsOfAll_19 : decode cX8_versionsOfAll 19 = .ok (.istore_n 1, 1) := by decide +kernel
theorem dX8_versionsOfAll_20 : decode cX8_versionsOfAll 20 = .ok (.iinc 2 1, 3) := by decide +kernel
theorem dX8_versionsOfAll_23 : decode cX8_versionsOfAll 23 = .ok (.goto (-19), 3) := by decide +kernel
theorem dX8_versionsOfAll_26 : decode cX8_versionsOfAll 26 = .ok (.iload_n 1, 1) := by decide +kernel
theorem dX8_versionsOfAll_27 : decode cX8_versionsOfAll 27 = .ok (.ireturn, 1) := by decide +kernel
def fM_versionsOfAll_4 (u : Nat) (g : mS) (s1 : Int32 × Int32) : Option ((Int32 × Int32) ⊕ (Int32)) :=
  if (g.1 0 9) ≤ s1.2 then
    some (.inr s1.1)
  else
    (fM_many u g s1.2).bind fun x2 =>
    some (.inl ((s1.1 + x2), (s1.2 + iz 1)))
def fM_versionsOfAll (u : Nat) (g : mS) : Option (Int32) :=
  (nx_iter u (fM_versionsOfAll_4 u g) ((iz 0), (iz 0))).bind fun e3 =>
  some e3
set_option maxRecDepth 4000 in
theorem jM_versionsOfAll_4 {Γ : nx_G} {M0 : nx_M} {m : Nat} (u : Nat) (g : mS)   (X : nx_X) (Z : nx_Z) (s1 : Int32 × Int32) : nx_J Γ X (RX8, cX8_versionsOfAll, 3, (some .int), "versionsOfAll", 3) Z (Sum.elim (fun s1 : Int32 × Int32 => .inl (4, [some (.ref m), some (.int s1.1), some (.int s1.2)], [], (mW Γ M0 m g))) (fun e3 : Int32 => .inl (26, [some (.ref m), some (.int e3), none], [], (mW Γ M0 m g)))) (.inl (4, [some (.ref m), some (.int s1.1), some (.int s1.2)], [], (mW Γ M0 m g))) (fM_versionsOfAll_4 u g s1) := by
  unfold fM_versionsOfAll_4
  refine nx_iload_n rfl dX8_versionsOfAll_4 rfl ?_
  refine nx_aload_n rfl dX8_versionsOfAll_5 rfl ?_
  refine nx_getf fl_8_142 mW_m rfl dX8_versionsOfAll_6 rfl ?_
  refine nx_icmp_ge (t := 26) dX8_versionsOfAll_9 (by decide) rfl ?_ ?_
  · refine nx_weak (ls' := [some (.ref m), some (.int s1.1), none]) (nx_wk_s (nx_wk_s (nx_wk_n nx_wk_e))) ?_
    obtain ⟨_, _⟩ := s1
    exact nx_leaf rfl
  · refine nx_iload_n rfl dX8_versionsOfAll_12 rfl ?_
    refine nx_aload_n rfl dX8_versionsOfAll_13 rfl ?_
    refine nx_iload_n rfl dX8_versionsOfAll_14 rfl ?_
    refine nx_callVr [.int s1.2] (fun r => .int r) (fun _ => (mW Γ M0 m g)) cw_8_171 cv_X8_many (fun r e => cM_many X.2.1  e) mW_m rfl rfl (Nat.le_of_ble_eq_true rfl) (Nat.le_of_ble_eq_true rfl) dX8_versionsOfAll_15 rfl (fun x2 => ?_)
    refine nx_iadd dX8_versionsOfAll_18 rfl ?_
    refine nx_istore_n [some (.ref m), some (.int (s1.1 + x2)), some (.int s1.2)] dX8_versionsOfAll_19 rfl (Nat.le_of_ble_eq_true rfl) rfl rfl ?_
    refine nx_iinc [some (.ref m), some (.int (s1.1 + x2)), some (.int (s1.2 + iz 1))] dX8_versionsOfAll_20 rfl rfl (Nat.le_of_ble_eq_true rfl) rfl rfl ?_
    refine nx_goto (q := 4) dX8_versionsOfAll_23 (by decide) ?_
    obtain ⟨_, _⟩ := s1
    exact nx_leaf rfl
set_option maxRecDepth 4000 in
theorem jM_versionsOfAll {Γ : nx_G} {M0 : nx_M} {m : Nat} (u : Nat) (g : mS)   (X : nx_X) (Z : nx_Z) : nx_J Γ X (RX8, cX8_versionsOfAll, 3, (some .int), "versionsOfAll", 3) Z (fun r0 : Int32 => .inr (some (.int r0), (mW Γ M0 m g))) (.inl (0, [some (.ref m), none, none], [], (mW Γ M0 m g))) (fM_versionsOfAll u g) := by
  unfold fM_versionsOfAll
  refine nx_iconst dX8_versionsOfAll_0 rfl ?_
  refine nx_istore_n [some (.ref m), some (.int (iz 0)), none] dX8_versionsOfAll_1 rfl (Nat.le_of_ble_eq_true rfl) rfl rfl ?_
  refine nx_iconst dX8_versionsOfAll_2 rfl ?_
  refine nx_istore_n [some (.ref m), some (.int (iz 0)), some (.int (iz 0))] dX8_versionsOfAll_3 rfl (Nat.le_of_ble_eq_true rfl) rfl rfl ?_
  refine nx_seq (C1 := fun e3 : Int32 => .inl (26, [some (.ref m), some (.int e3), none], [], (mW Γ M0 m g))) (nx_loop (C1 := fun s1 : Int32 × Int32 => .inl (4, [some (.ref m), some (.int s1.1), some (.int s1.2)], [], (mW Γ M0 m g))) (fun s1 => jM_versionsOfAll_4  u g X Z s1) ((iz 0), (iz 0))) (fun e3 => ?_)
  refine nx_iload_n rfl dX8_versionsOfAll_26 rfl ?_
  exact nx_iret dX8_versionsOfAll_27 rfl rfl
theorem cM_versionsOfAll (l : Launch) {Γ : nx_G} {M0 : nx_M} {m : Nat} {u : Nat} {g : mS} {r : Int32}  (h : fM_versionsOfAll u g = some r) : nx_Ct l Γ 3 yX8_versionsOfAll cX8_versionsOfAll 3 (some .int) [.ref m] (mW Γ M0 m g) (some (.int r), (mW Γ M0 m g)) :=
  nx_ct (out := fun r0 : Int32 => (some (.int r0), (mW Γ M0 m g))) [some (.ref m), none, none] pn_RX8 h (Nat.le_of_ble_eq_true rfl) rfl (fun X Z _ => jM_versionsOfAll  u g X Z)
theorem dX8_shares_0 : decode cX8_shares 0 = .ok (.aload_n 0, 1) := by decide +kernel
theorem dX8_shares_1 : decode cX8_shares 1 = .ok (.iload_n 1, 1) := by decide +kernel
theorem dX8_shares_2 : decode cX8_shares 2 = .ok (.invokevirtual 232, 3) := by decide +kernel
theorem dX8_shares_5 : decode cX8_shares 5 = .ok (.ifCond .eq 29, 3) := by decide +kernel
theorem dX8_shares_8 : decode cX8_shares 8 = .ok (.iload_n 2, 1) := by decide +kernel
theorem dX8_shares_9 : decode cX8_shares 9 = .ok (.iconst 0, 1) := by decide +kernel
theorem dX8_shares_10 : decode cX8_shares 10 = .ok (.sipush 999, 3) := by decide +kernel
theorem dX8_shares_13 : decode cX8_shares 13 = .ok (.invokestatic 61, 3) := by decide +kernel
theorem dX8_shares_16 : decode cX8_shares 16 = .ok (.ifCond .eq 18, 3) := by decide +kernel
theorem dX8_shares_19 : decode cX8_shares 19 = .ok (.iload_n 2, 1) := by decide +kernel
theorem dX8_shares_20 : decode cX8_shares 20 = .ok (.aload_n 0, 1) := by decide +kernel
theorem dX8_shares_21 : decode cX8_shares 21 = .ok (.iload_n 1, 1) := by decide +kernel
theorem dX8_shares_22 : decode cX8_shares 22 = .ok (.invokevirtual 171, 3) := by decide +kernel
theorem dX8_shares_25 : decode cX8_shares 25 = .ok (.imul, 1) := by decide +kernel
theorem dX8_shares_26 : decode cX8_shares 26 = .ok (.aload_n 0, 1) := by decide +kernel
theorem dX8_shares_27 : decode cX8_shares 27 = .ok (.invokevirtual 384, 3) := by decide +kernel
theorem dX8_shares_30 : decode cX8_shares 30 = .ok (.idiv, 1) := by decide +kernel
theorem dX8_shares_31 : decode cX8_shares 31 = .ok (.goto 4, 3) := by decide +kernel
theorem dX8_shares_34 : decode cX8_shares 34 = .ok (.iconst (-1), 1) := by decide +kernel
theorem dX8_shares_35 : decode cX8_shares 35 = .ok (.ireturn, 1) := by decide +kernel
def fM_shares (u : Nat) (g : mS) (a1 : Int32) (a2 : Int32) : Option (Int32) :=
  (fM_isKey u g a1).bind fun b1 =>
  if b1 = true then
    (fM_in u a2 (iz 0) (iz 999)).bind fun b2 =>
    if b2 = true then
      (fM_many u g a1).bind fun x3 =>
      (fM_versionsOfAll u g).bind fun x4 =>
      (nx_dv (a2 * x3) x4).bind fun x5 =>
      some x5
    else
      some (iz (-1))
  else
    some (iz (-1))
set_option maxRecDepth 4000 in
theorem jM_shares {Γ : nx_G} {M0 : nx_M} {m : Nat} (u : Nat) (g : mS) (a1 : Int32) (a2 : Int32)   (X : nx_X) (Z : nx_Z) : nx_J Γ X (RX8, cX8_shares, 3, (some .int), "shares", 4) Z (fun r0 : Int32 => .inr (some (.int r0), (mW Γ M0 m g))) (.inl (0, [some (.ref m), some (.int a1), some (.int a2)], [], (mW Γ M0 m g))) (fM_shares u g a1 a2) := by
  unfold fM_shares
  refine nx_aload_n rfl dX8_shares_0 rfl ?_
  refine nx_iload_n rfl dX8_shares_1 rfl ?_
  refine nx_callVr [.int a1] (fun r => .int (bz r)) (fun _ => (mW Γ M0 m g)) cw_8_232 cv_X8_isKey (fun r e => cM_isKey X.2.1  e) mW_m rfl rfl (Nat.le_of_ble_eq_true rfl) (Nat.le_of_ble_eq_true rfl) dX8_shares_2 rfl (fun b1 => ?_)
  refine nx_ifz_eq (t := 34) dX8_shares_5 (by decide) rfl ?_ ?_
  · refine nx_iconst dX8_shares_34 rfl ?_
    exact nx_iret dX8_shares_35 rfl rfl
  · refine nx_iload_n rfl dX8_shares_8 rfl ?_
    refine nx_iconst dX8_shares_9 rfl ?_
    refine nx_sipush (by decide +kernel) dX8_shares_10 rfl ?_
    refine nx_callSr [.int a2, .int (iz 0), .int (iz 999)] (fun r => .int (bz r)) (fun _ => (mW Γ M0 m g)) cw_8_61 wd_1243 (fun r e => cM_in X.2.1  e) rfl rfl (Nat.le_of_ble_eq_true rfl) (Nat.le_of_ble_eq_true rfl) dX8_shares_13 rfl (fun b2 => ?_)
    refine nx_ifz_eq (t := 34) dX8_shares_16 (by decide) rfl ?_ ?_
    · refine nx_iconst dX8_shares_34 rfl ?_
      exact nx_iret dX8_shares_35 rfl rfl
    · refine nx_iload_n rfl dX8_shares_19 rfl ?_
      refine nx_aload_n rfl dX8_shares_20 rfl ?_
      refine nx_iload_n rfl dX8_shares_21 rfl ?_
      refine nx_callVr [.int a1] (fun r => .int r) (fun _ => (mW Γ M0 m g)) cw_8_171 cv_X8_many (fun r e => cM_many X.2.1  e) mW_m rfl rfl (Nat.le_of_ble_eq_true rfl) (Nat.le_of_ble_eq_true rfl) dX8_shares_22 rfl (fun x3 => ?_)
      refine nx_imul dX8_shares_25 rfl ?_
      refine nx_aload_n rfl dX8_shares_26 rfl ?_
      refine nx_callVr [] (fun r => .int r) (fun _ => (mW Γ M0 m g)) cw_8_384 cv_X8_versionsOfAll (fun r e => cM_versionsOfAll X.2.1  e) mW_m rfl rfl (Nat.le_of_ble_eq_true rfl) (Nat.le_of_ble_eq_true rfl) dX8_shares_27 rfl (fun x4 => ?_)
      refine nx_idiv dX8_shares_30 rfl (fun x5 => ?_)
      refine nx_goto (q := 35) dX8_shares_31 (by decide) ?_
      exact nx_iret dX8_shares_35 rfl rfl
theorem cM_shares (l : Launch) {Γ : nx_G} {M0 : nx_M} {m : Nat} {u : Nat} {g : mS} {a1 : Int32} {a2 : Int32} {r : Int32}  (h : fM_shares u g a1 a2 = some r) : nx_Ct l Γ 4 yX8_shares cX8_shares 3 (some .int) [.ref m, .int a1, .int a2] (mW Γ M0 m g) (some (.int r), (mW Γ M0 m g)) :=
  nx_ct (out := fun r0 : Int32 => (some (.int r0), (mW Γ M0 m g))) [some (.ref m), some (.int a1), some (.int a2)] pn_RX8 h (Nat.le_of_ble_eq_true rfl) rfl (fun X Z _ => jM_shares  u g a1 a2 X Z)
theorem dX8_doomedOnes_0 : decode cX8_doomedOnes 0 = .ok (.iconst 0, 1) := by decide +kernel
theorem dX8_doomedOnes_1 : decode cX8_doomedOnes 1 = .ok (.istore_n 1, 1) := by decide +kernel
theorem dX8_doomedOnes_2 : decode cX8_doomedOnes 2 = .ok (.iconst 0, 1) := by decide +kernel
theorem dX8_doomedOnes_3 : decode cX8_doomedOnes 3 = .ok (.istore_n 2, 1) := by decide +kernel
theorem dX8_doomedOnes_4 : decode cX8_doomedOnes 4 = .ok (.iload_n 2, 1) := by decide +kernel
theorem dX8_doomedOnes_5 : decode cX8_doomedOnes 5 = .ok (.bipush 8, 2) := by decide +kernel
theorem dX8_doomedOnes_7 : decode cX8_doomedOnes 7 = .ok (.if_icmp .ge 37, 3) := by decide +kernel
theorem dX8_doomedOnes_10 : decode cX8_doomedOnes 10 = .ok (.iload_n 1, 1) := by decide +kernel
theorem dX8_doomedOnes_11 : decode cX8_doomedOnes 11 = .ok (.aload_n 0, 1) := by decide +kernel
theorem dX8_doomedOnes_12 : decode cX8_doomedOnes 12 = .ok (.iload_n 2, 1) := by decide +kernel
theorem dX8_doomedOnes_13 : decode cX8_doomedOnes 13 = .ok (.invokevirtual 180, 3) := by decide +kernel
theorem dX8_doomedOnes_16 : decode cX8_doomedOnes 16 = .ok (.ifCond .eq 19, 3) := by decide +kernel
theorem dX8_doomedOnes_19 : decode cX8_doomedOnes 19 = .ok (.aload_n 0, 1) := by decide +kernel
theorem dX8_doomedOnes_20 : decode cX8_doomedOnes 20 = .ok (.iload_n 2, 1) := by decide +kernel
theorem dX8_doomedOnes_21 : decode cX8_doomedOnes 21 = .ok (.iconst 4, 1) := by decide +kernel
theorem dX8_doomedOnes_22 : decode cX8_doomedOnes 22 = .ok (.invokevirtual 165, 3) := by decide +kernel
theorem dX8_doomedOnes_25 : decode cX8_doomedOnes 25 = .ok (.iconst 1, 1) := by decide +kernel
theorem dX8_doomedOnes_26 : decode cX8_doomedOnes 26 = .ok (.if_icmp .ne 9, 3) := by decide +kernel
theorem dX8_doomedOnes_29 : decode cX8_doomedOnes 29 = .ok (.iconst 1, 1) := by decide +kernel
theorem dX8_doomedOnes_30 : decode cX8_doomedOnes 30 = .ok (.iload_n 2, 1) := by decide +kernel
theorem dX8_doomedOnes_31 : decode cX8_doomedOnes 31 = .ok (.ishl, 1) := by decide +kernel
theorem dX8_doomedOnes_32 : decode cX8_doomedOnes 32 = .ok (.goto 4, 3) := by decide +kernel
theorem dX8_doomedOnes_35 : decode cX8_doomedOnes 35 = .ok (.iconst 0, 1) := by decide +kernel
theorem dX8_doomedOnes_36 : decode cX8_doomedOnes 36 = .ok (.ior, 1) := by decide +kernel
theorem dX8_doomedOnes_37 : decode cX8_doomedOnes 37 = .ok (.istore_n 1, 1) := by decide +kernel
theorem dX8_doomedOnes_38 : decode cX8_doomedOnes 38 = .ok (.iinc 2 1, 3) := by decide +kernel
theorem dX8_doomedOnes_41 : decode cX8_doomedOnes 41 = .ok (.goto (-37), 3) := by decide +kernel
theorem dX8_doomedOnes_44 : decode cX8_doomedOnes 44 = .ok (.iload_n 1, 1) := by decide +kernel
theorem dX8_doomedOnes_45 : decode cX8_doomedOnes 45 = .ok (.ireturn, 1) := by decide +kernel
def fM_doomedOnes_4 (u : Nat) (g : mS) (s1 : Int32 × Int32) : Option ((Int32 × Int32) ⊕ (Int32)) :=
  if (iz 8) ≤ s1.2 then
    some (.inr s1.1)
  else
    (fM_isOn u g s1.2).bind fun b2 =>
    (if b2 = true then
       (fM_of u g s1.2 (iz 4)).bind fun x3 =>
       if x3 = (iz 1) then
         some ((iz 1) <<< (s1.2 &&& 31))
       else
         some (iz 0)
     else
       some (iz 0) : Option (Int32)).bind fun s4 =>
    some (.inl ((s1.1 ||| s4), (s1.2 + iz 1)))
def fM_doomedOnes (u : Nat) (g : mS) : Option (Int32) :=
  (nx_iter u (fM_doomedOnes_4 u g) ((iz 0), (iz 0))).bind fun e5 =>
  some e5
set_option maxRecDepth 4000 in
theorem jM_doomedOnes_4 {Γ : nx_G} {M0 : nx_M} {m : Nat} (u : Nat) (g : mS)   (X : nx_X) (Z : nx_Z) (s1 : Int32 × Int32) : nx_J Γ X (RX8, cX8_doomedOnes, 3, (some .int), "doomedOnes", 4) Z (Sum.elim (fun s1 : Int32 × Int32 => .inl (4, [some (.ref m), some (.int s1.1), some (.int s1.2)], [], (mW Γ M0 m g))) (fun e5 : Int32 => .inl (44, [some (.ref m), some (.int e5), none], [], (mW Γ M0 m g)))) (.inl (4, [some (.ref m), some (.int s1.1), some (.int s1.2)], [], (mW Γ M0 m g))) (fM_doomedOnes_4 u g s1) := by
  unfold fM_doomedOnes_4
  refine nx_iload_n rfl dX8_doomedOnes_4 rfl ?_
  refine nx_bipush (by decide +kernel) dX8_doomedOnes_5 rfl ?_
  refine nx_icmp_ge (t := 44) dX8_doomedOnes_7 (by decide) rfl ?_ ?_
  · refine nx_weak (ls' := [some (.ref m), some (.int s1.1), none]) (nx_wk_s (nx_wk_s (nx_wk_n nx_wk_e))) ?_
    obtain ⟨_, _⟩ := s1
    exact nx_leaf rfl
  · refine nx_iload_n rfl dX8_doomedOnes_10 rfl ?_
    refine nx_aload_n rfl dX8_doomedOnes_11 rfl ?_
    refine nx_iload_n rfl dX8_doomedOnes_12 rfl ?_
    refine nx_callVr [.int s1.2] (fun r => .int (bz r)) (fun _ => (mW Γ M0 m g)) cw_8_180 cv_X8_isOn (fun r e => cM_isOn X.2.1  e) mW_m rfl rfl (Nat.le_of_ble_eq_true rfl) (Nat.le_of_ble_eq_true rfl) dX8_doomedOnes_13 rfl (fun b2 => ?_)
    refine nx_seq (C1 := fun s4 : Int32 => .inl (36, [some (.ref m), some (.int s1.1), some (.int s1.2)], [.int s4, .int s1.1], (mW Γ M0 m g))) ?_ (fun s4 => ?_)
    · refine nx_ifz_eq (t := 35) dX8_doomedOnes_16 (by decide) rfl ?_ ?_
      · refine nx_iconst dX8_doomedOnes_35 rfl ?_
        obtain ⟨_, _⟩ := s1
        exact nx_leaf rfl
      · refine nx_aload_n rfl dX8_doomedOnes_19 rfl ?_
        refine nx_iload_n rfl dX8_doomedOnes_20 rfl ?_
        refine nx_iconst dX8_doomedOnes_21 rfl ?_
        refine nx_callVr [.int s1.2, .int (iz 4)] (fun r => .int r) (fun _ => (mW Γ M0 m g)) cw_8_165 cv_X8_of (fun r e => cM_of X.2.1  e) mW_m rfl rfl (Nat.le_of_ble_eq_true rfl) (Nat.le_of_ble_eq_true rfl) dX8_doomedOnes_22 rfl (fun x3 => ?_)
        refine nx_iconst dX8_doomedOnes_25 rfl ?_
        refine nx_icmp_ne (t := 35) dX8_doomedOnes_26 (by decide) rfl ?_ ?_
        · refine nx_iconst dX8_doomedOnes_35 rfl ?_
          obtain ⟨_, _⟩ := s1
          exact nx_leaf rfl
        · refine nx_iconst dX8_doomedOnes_29 rfl ?_
          refine nx_iload_n rfl dX8_doomedOnes_30 rfl ?_
          refine nx_ishl dX8_doomedOnes_31 rfl ?_
          refine nx_goto (q := 36) dX8_doomedOnes_32 (by decide) ?_
          obtain ⟨_, _⟩ := s1
          exact nx_leaf rfl
    refine nx_ior dX8_doomedOnes_36 rfl ?_
    refine nx_istore_n [some (.ref m), some (.int (s1.1 ||| s4)), some (.int s1.2)] dX8_doomedOnes_37 rfl (Nat.le_of_ble_eq_true rfl) rfl rfl ?_
    refine nx_iinc [some (.ref m), some (.int (s1.1 ||| s4)), some (.int (s1.2 + iz 1))] dX8_doomedOnes_38 rfl rfl (Nat.le_of_ble_eq_true rfl) rfl rfl ?_
    refine nx_goto (q := 4) dX8_doomedOnes_41 (by decide) ?_
    obtain ⟨_, _⟩ := s1
    exact nx_leaf rfl
set_option maxRecDepth 4000 in
theorem jM_doomedOnes {Γ : nx_G} {M0 : nx_M} {m : Nat} (u : Nat) (g : mS)   (X : nx_X) (Z : nx_Z) : nx_J Γ X (RX8, cX8_doomedOnes, 3, (some .int), "doomedOnes", 4) Z (fun r0 : Int32 => .inr (some (.int r0), (mW Γ M0 m g))) (.inl (0, [some (.ref m), none, none], [], (mW Γ M0 m g))) (fM_doomedOnes u g) := by
  unfold fM_doomedOnes
  refine nx_iconst dX8_doomedOnes_0 rfl ?_
  refine nx_istore_n [some (.ref m), some (.int (iz 0)), none] dX8_doomedOnes_1 rfl (Nat.le_of_ble_eq_true rfl) rfl rfl ?_
  refine nx_iconst dX8_doomedOnes_2 rfl ?_
  refine nx_istore_n [some (.ref m), some (.int (iz 0)), some (.int (iz 0))] dX8_doomedOnes_3 rfl (Nat.le_of_ble_eq_true rfl) rfl rfl ?_
  refine nx_seq (C1 := fun e5 : Int32 => .inl (44, [some (.ref m), some (.int e5), none], [], (mW Γ M0 m g))) (nx_loop (C1 := fun s1 : Int32 × Int32 => .inl (4, [some (.ref m), some (.int s1.1), some (.int s1.2)], [], (mW Γ M0 m g))) (fun s1 => jM_doomedOnes_4  u g X Z s1) ((iz 0), (iz 0))) (fun e5 => ?_)
  refine nx_iload_n rfl dX8_doomedOnes_44 rfl ?_
  exact nx_iret dX8_doomedOnes_45 rfl rfl
theorem cM_doomedOnes (l : Launch) {Γ : nx_G} {M0 : nx_M} {m : Nat} {u : Nat} {g : mS} {r : Int32}  (h : fM_doomedOnes u g = some r) : nx_Ct l Γ 4 yX8_doomedOnes cX8_doomedOnes 3 (some .int) [.ref m] (mW Γ M0 m g) (some (.int r), (mW Γ M0 m g)) :=
  nx_ct (out := fun r0 : Int32 => (some (.int r0), (mW Γ M0 m g))) [some (.ref m), none, none] pn_RX8 h (Nat.le_of_ble_eq_true rfl) rfl (fun X Z _ => jM_doomedOnes  u g X Z)
theorem dX8_unsure_0 : decode cX8_unsure 0 = .ok (.iconst 0, 1) := by decide +kernel
theorem dX8_unsure_1 : decode cX8_unsure 1 = .ok (.istore_n 1, 1) := by decide +kernel
theorem dX8_unsure_2 : decode cX8_unsure 2 = .ok (.iconst 0, 1) := by decide +kernel
theorem dX8_unsure_3 : decode cX8_unsure 3 = .ok (.istore_n 2, 1) := by decide +kernel
theorem dX8_unsure_4 : decode cX8_unsure 4 = .ok (.iload_n 2, 1) := by decide +kernel
theorem dX8_unsure_5 : decode cX8_unsure 5 = .ok (.aload_n 0, 1) := by decide +kernel
theorem dX8_unsure_6 : decode cX8_unsure 6 = .ok (.getfield 142, 3) := by decide +kernel
theorem dX8_unsure_9 : decode cX8_unsure 9 = .ok (.if_icmp .ge 47, 3) := by decide +kernel
theorem dX8_unsure_12 : decode cX8_unsure 12 = .ok (.iconst 0, 1) := by decide +kernel
theorem dX8_unsure_13 : decode cX8_unsure 13 = .ok (.istore_n 3, 1) := by decide +kernel
theorem dX8_unsure_14 : decode cX8_unsure 14 = .ok (.iload_n 3, 1) := by decide +kernel
theorem dX8_unsure_15 : decode cX8_unsure 15 = .ok (.aload_n 0, 1) := by decide +kernel
theorem dX8_unsure_16 : decode cX8_unsure 16 = .ok (.iload_n 2, 1) := by decide +kernel
theorem dX8_unsure_17 : decode cX8_unsure 17 = .ok (.invokevirtual 171, 3) := by decide +kernel
theorem dX8_unsure_20 : decode cX8_unsure 20 = .ok (.if_icmp .ge 30, 3) := by decide +kernel
theorem dX8_unsure_23 : decode cX8_unsure 23 = .ok (.iload_n 1, 1) := by decide +kernel
theorem dX8_unsure_24 : decode cX8_unsure 24 = .ok (.aload_n 0, 1) := by decide +kernel
theorem dX8_unsure_25 : decode cX8_unsure 25 = .ok (.iload_n 2, 1) := by decide +kernel
theorem dX8_unsure_26 : decode cX8_unsure 26 = .ok (.iload_n 3, 1) := by decide +kernel
theorem dX8_unsure_27 : decode cX8_unsure 27 = .ok (.iconst 4, 1) := by decide +kernel
theorem dX8_unsure_28 : decode cX8_unsure 28 = .ok (.invokevirtual 174, 3) := by decide +kernel
theorem dX8_unsure_31 : decode cX8_unsure 31 = .ok (.iconst (-1), 1) := by decide +kernel
theorem dX8_unsure_32 : decode cX8_unsure 32 = .ok (.if_icmp .eq 9, 3) := by decide +kernel
theorem dX8_unsure_35 : decode cX8_unsure 35 = .ok (.iconst 1, 1) := by decide +kernel
theorem dX8_unsure_36 : decode cX8_unsure 36 = .ok (.iload_n 2, 1) := by decide +kernel
theorem dX8_unsure_37 : decode cX8_unsure 37 = .ok (.ishl, 1) := by decide +kernel
theorem dX8_unsure_38 : decode cX8_unsure 38 = .ok (.goto 4, 3) := by decide +kernel
theorem dX8_unsure_41 : decode cX8_unsure 41 = .ok (.iconst 0, 1) := by decide +kernel
theorem dX8_unsure_42 : decode cX8_unsure 42 = .ok (.ior, 1) := by decide +kernel
theorem dX8_unsure_43 : decode cX8_unsure 43 = .ok (.istore_n 1, 1) := by decide +kernel
theorem dX8_unsure_44 : decode cX8_unsure 44 = .ok (.iinc 3 1, 3) := by decide +kernel
theorem dX8_unsure_47 : decode cX8_unsure 47 = .ok (.goto (-33), 3) := by decide +kernel
theorem dX8_unsure_50 : decode cX8_unsure 50 = .ok (.iinc 2 1, 3) := by decide +kernel
theorem dX8_unsure_53 : decode cX8_unsure 53 = .ok (.goto (-49), 3) := by decide +kernel
theorem dX8_unsure_56 : decode cX8_unsure 56 = .ok (.iload_n 1, 1) := by decide +kernel
theorem dX8_unsure_57 : decode cX8_unsure 57 = .ok (.ireturn, 1) := by decide +kernel
def fM_unsure_14 (u : Nat) (g : mS) (s1 : Int32 × Int32) (s2 : Int32 × Int32) : Option ((Int32 × Int32) ⊕ (Int32)) :=
  (fM_many u g s1.2).bind fun x3 =>
  if x3 ≤ s2.2 then
    some (.inr s2.1)
  else
    (fM_its u g s1.2 s2.2 (iz 4)).bind fun x4 =>
    (if x4 = (iz (-1)) then
       some (iz 0)
     else
       some ((iz 1) <<< (s1.2 &&& 31)) : Option (Int32)).bind fun s5 =>
    some (.inl ((s2.1 ||| s5), (s2.2 + iz 1)))
def fM_unsure_4 (u : Nat) (g : mS) (s1 : Int32 × Int32) : Option ((Int32 × Int32) ⊕ (Int32)) :=
  if (g.1 0 9) ≤ s1.2 then
    some (.inr s1.1)
  else
    (nx_iter u (fM_unsure_14 u g s1) (s1.1, (iz 0))).bind fun e6 =>
    some (.inl (e6, (s1.2 + iz 1)))
def fM_unsure (u : Nat) (g : mS) : Option (Int32) :=
  (nx_iter u (fM_unsure_4 u g) ((iz 0), (iz 0))).bind fun e7 =>
  some e7
set_option maxRecDepth 4000 in
theorem jM_unsure_14 {Γ : nx_G} {M0 : nx_M} {m : Nat} (u : Nat) (g : mS) (s1 : Int32 × Int32)   (X : nx_X) (Z : nx_Z) (s2 : Int32 × Int32) : nx_J Γ X (RX8, cX8_unsure, 4, (some .int), "unsure", 3) Z (Sum.elim (fun s2 : Int32 × Int32 => .inl (14, [some (.ref m), some (.int s2.1), some (.int s1.2), some (.int s2.2)], [], (mW Γ M0 m g))) (fun e6 : Int32 => .inl (50, [some (.ref m), some (.int e6), some (.int s1.2), none], [], (mW Γ M0 m g)))) (.inl (14, [some (.ref m), some (.int s2.1), some (.int s1.2), some (.int s2.2)], [], (mW Γ M0 m g))) (fM_unsure_14 u g s1 s2) := by
  unfold fM_unsure_14
  refine nx_iload_n rfl dX8_unsure_14 rfl ?_
  refine nx_aload_n rfl dX8_unsure_15 rfl ?_
  refine nx_iload_n rfl dX8_unsure_16 rfl ?_
  refine nx_callVr [.int s1.2] (fun r => .int r) (fun _ => (mW Γ M0 m g)) cw_8_171 cv_X8_many (fun r e => cM_many X.2.1  e) mW_m rfl rfl (Nat.le_of_ble_eq_true rfl) (Nat.le_of_ble_eq_true rfl) dX8_unsure_17 rfl (fun x3 => ?_)
  refine nx_icmp_ge (t := 50) dX8_unsure_20 (by decide) rfl ?_ ?_
  · refine nx_weak (ls' := [some (.ref m), some (.int s2.1), some (.int s1.2), none]) (nx_wk_s (nx_wk_s (nx_wk_s (nx_wk_n nx_wk_e)))) ?_
    obtain ⟨_, _⟩ := s1
    obtain ⟨_, _⟩ := s2
    exact nx_leaf rfl
  · refine nx_iload_n rfl dX8_unsure_23 rfl ?_
    refine nx_aload_n rfl dX8_unsure_24 rfl ?_
    refine nx_iload_n rfl dX8_unsure_25 rfl ?_
    refine nx_iload_n rfl dX8_unsure_26 rfl ?_
    refine nx_iconst dX8_unsure_27 rfl ?_
    refine nx_callVr [.int s1.2, .int s2.2, .int (iz 4)] (fun r => .int r) (fun _ => (mW Γ M0 m g)) cw_8_174 cv_X8_its (fun r e => cM_its X.2.1  e) mW_m rfl rfl (Nat.le_of_ble_eq_true rfl) (Nat.le_of_ble_eq_true rfl) dX8_unsure_28 rfl (fun x4 => ?_)
    refine nx_iconst dX8_unsure_31 rfl ?_
    refine nx_seq (C1 := fun s5 : Int32 => .inl (42, [some (.ref m), some (.int s2.1), some (.int s1.2), some (.int s2.2)], [.int s5, .int s2.1], (mW Γ M0 m g))) ?_ (fun s5 => ?_)
    · refine nx_icmp_eq (t := 41) dX8_unsure_32 (by decide) rfl ?_ ?_
      · refine nx_iconst dX8_unsure_41 rfl ?_
        obtain ⟨_, _⟩ := s1
        obtain ⟨_, _⟩ := s2
        exact nx_leaf rfl
      · refine nx_iconst dX8_unsure_35 rfl ?_
        refine nx_iload_n rfl dX8_unsure_36 rfl ?_
        refine nx_ishl dX8_unsure_37 rfl ?_
        refine nx_goto (q := 42) dX8_unsure_38 (by decide) ?_
        obtain ⟨_, _⟩ := s1
        obtain ⟨_, _⟩ := s2
        exact nx_leaf rfl
    refine nx_ior dX8_unsure_42 rfl ?_
    refine nx_istore_n [some (.ref m), some (.int (s2.1 ||| s5)), some (.int s1.2), some (.int s2.2)] dX8_unsure_43 rfl (Nat.le_of_ble_eq_true rfl) rfl rfl ?_
    refine nx_iinc [some (.ref m), some (.int (s2.1 ||| s5)), some (.int s1.2), some (.int (s2.2 + iz 1))] dX8_unsure_44 rfl rfl (Nat.le_of_ble_eq_true rfl) rfl rfl ?_
    refine nx_goto (q := 14) dX8_unsure_47 (by decide) ?_
    obtain ⟨_, _⟩ := s1
    obtain ⟨_, _⟩ := s2
    exact nx_leaf rfl
set_option maxRecDepth 4000 in
theorem jM_unsure_4 {Γ : nx_G} {M0 : nx_M} {m : Nat} (u : Nat) (g : mS)   (X : nx_X) (Z : nx_Z) (s1 : Int32 × Int32) : nx_J Γ X (RX8, cX8_unsure, 4, (some .int), "unsure", 3) Z (Sum.elim (fun s1 : Int32 × Int32 => .inl (4, [some (.ref m), some (.int s1.1), some (.int s1.2), none], [], (mW Γ M0 m g))) (fun e7 : Int32 => .inl (56, [some (.ref m), some (.int e7), none, none], [], (mW Γ M0 m g)))) (.inl (4, [some (.ref m), some (.int s1.1), some (.int s1.2), none], [], (mW Γ M0 m g))) (fM_unsure_4 u g s1) := by
  unfold fM_unsure_4
  refine nx_iload_n rfl dX8_unsure_4 rfl ?_
  refine nx_aload_n rfl dX8_unsure_5 rfl ?_
  refine nx_getf fl_8_142 mW_m rfl dX8_unsure_6 rfl ?_
  refine nx_icmp_ge (t := 56) dX8_unsure_9 (by decide) rfl ?_ ?_
  · refine nx_weak (ls' := [some (.ref m), some (.int s1.1), none, none]) (nx_wk_s (nx_wk_s (nx_wk_n (nx_wk_n nx_wk_e)))) ?_
    obtain ⟨_, _⟩ := s1
    exact nx_leaf rfl
  · refine nx_iconst dX8_unsure_12 rfl ?_
    refine nx_istore_n [some (.ref m), some (.int s1.1), some (.int s1.2), some (.int (iz 0))] dX8_unsure_13 rfl (Nat.le_of_ble_eq_true rfl) rfl rfl ?_
    refine nx_seq (C1 := fun e6 : Int32 => .inl (50, [some (.ref m), some (.int e6), some (.int s1.2), none], [], (mW Γ M0 m g))) (nx_loop (C1 := fun s2 : Int32 × Int32 => .inl (14, [some (.ref m), some (.int s2.1), some (.int s1.2), some (.int s2.2)], [], (mW Γ M0 m g))) (fun s2 => jM_unsure_14  u g s1 X Z s2) (s1.1, (iz 0))) (fun e6 => ?_)
    refine nx_iinc [some (.ref m), some (.int e6), some (.int (s1.2 + iz 1)), none] dX8_unsure_50 rfl rfl (Nat.le_of_ble_eq_true rfl) rfl rfl ?_
    refine nx_goto (q := 4) dX8_unsure_53 (by decide) ?_
    obtain ⟨_, _⟩ := s1
    exact nx_leaf rfl
set_option maxRecDepth 4000 in
theorem jM_unsure {Γ : nx_G} {M0 : nx_M} {m : Nat} (u : Nat) (g : mS)   (X : nx_X) (Z : nx_Z) : nx_J Γ X (RX8, cX8_unsure, 4, (some .int), "unsure", 3) Z (fun r0 : Int32 => .inr (some (.int r0), (mW Γ M0 m g))) (.inl (0, [some (.ref m), none, none, none], [], (mW Γ M0 m g))) (fM_unsure u g) := by
  unfold fM_unsure
  refine nx_iconst dX8_unsure_0 rfl ?_
  refine nx_istore_n [some (.ref m), some (.int (iz 0)), none, none] dX8_unsure_1 rfl (Nat.le_of_ble_eq_true rfl) rfl rfl ?_
  refine nx_iconst dX8_unsure_2 rfl ?_
  refine nx_istore_n [some (.ref m), some (.int (iz 0)), some (.int (iz 0)), none] dX8_unsure_3 rfl (Nat.le_of_ble_eq_true rfl) rfl rfl ?_
  refine nx_seq (C1 := fun e7 : Int32 => .inl (56, [some (.ref m), some (.int e7), none, none], [], (mW Γ M0 m g))) (nx_loop (C1 := fun s1 : Int32 × Int32 => .inl (4, [some (.ref m), some (.int s1.1), some (.int s1.2), none], [], (mW Γ M0 m g))) (fun s1 => jM_unsure_4  u g X Z s1) ((iz 0), (iz 0))) (fun e7 => ?_)
  refine nx_iload_n rfl dX8_unsure_56 rfl ?_
  exact nx_iret dX8_unsure_57 rfl rfl
theorem cM_unsure (l : Launch) {Γ : nx_G} {M0 : nx_M} {m : Nat} {u : Nat} {g : mS} {r : Int32}  (h : fM_unsure u g = some r) : nx_Ct l Γ 3 yX8_unsure cX8_unsure 4 (some .int) [.ref m] (mW Γ M0 m g) (some (.int r), (mW Γ M0 m g)) :=
  nx_ct (out := fun r0 : Int32 => (some (.int r0), (mW Γ M0 m g))) [some (.ref m), none, none, none] pn_RX8 h (Nat.le_of_ble_eq_true rfl) rfl (fun X Z _ => jM_unsure  u g X Z)
theorem dX8_oldest_0 : decode cX8_oldest 0 = .ok (.iconst (-1), 1) := by decide +kernel
theorem dX8_oldest_1 : decode cX8_oldest 1 = .ok (.istore_n 1, 1) := by decide +kernel
theorem dX8_oldest_2 : decode cX8_oldest 2 = .ok (.iconst 0, 1) := by decide +kernel
theorem dX8_oldest_3 : decode cX8_oldest 3 = .ok (.istore_n 2, 1) := by decide +kernel
theorem dX8_oldest_4 : decode cX8_oldest 4 = .ok (.iload_n 2, 1) := by decide +kernel
theorem dX8_oldest_5 : decode cX8_oldest 5 = .ok (.bipush 8, 2) := by decide +kernel
theorem dX8_oldest_7 : decode cX8_oldest 7 = .ok (.if_icmp .ge 43, 3) := by decide +kernel
theorem dX8_oldest_10 : decode cX8_oldest 10 = .ok (.aload_n 0, 1) := by decide +kernel
theorem dX8_oldest_11 : decode cX8_oldest 11 = .ok (.iload_n 2, 1) := by decide +kernel
theorem dX8_oldest_12 : decode cX8_oldest 12 = .ok (.invokevirtual 180, 3) := by decide +kernel
theorem dX8_oldest_15 : decode cX8_oldest 15 = .ok (.ifCond .eq 27, 3) := by decide +kernel
theorem dX8_oldest_18 : decode cX8_oldest 18 = .ok (.iload_n 1, 1) := by decide +kernel
theorem dX8_oldest_19 : decode cX8_oldest 19 = .ok (.iconst (-1), 1) := by decide +kernel
theorem dX8_oldest_20 : decode cX8_oldest 20 = .ok (.if_icmp .eq 18, 3) := by decide +kernel
theorem dX8_oldest_23 : decode cX8_oldest 23 = .ok (.aload_n 0, 1) := by decide +kernel
theorem dX8_oldest_24 : decode cX8_oldest 24 = .ok (.iload_n 2, 1) := by decide +kernel
theorem dX8_oldest_25 : decode cX8_oldest 25 = .ok (.iconst 1, 1) := by decide +kernel
theorem dX8_oldest_26 : decode cX8_oldest 26 = .ok (.invokevirtual 165, 3) := by decide +kernel
theorem dX8_oldest_29 : decode cX8_oldest 29 = .ok (.aload_n 0, 1) := by decide +kernel
theorem dX8_oldest_30 : decode cX8_oldest 30 = .ok (.iload_n 1, 1) := by decide +kernel
theorem dX8_oldest_31 : decode cX8_oldest 31 = .ok (.iconst 1, 1) := by decide +kernel
theorem dX8_oldest_32 : decode cX8_oldest 32 = .ok (.invokevirtual 165, 3) := by decide +kernel
theorem dX8_oldest_35 : decode cX8_oldest 35 = .ok (.if_icmp .ge 7, 3) := by decide +kernel
theorem dX8_oldest_38 : decode cX8_oldest 38 = .ok (.iload_n 2, 1) := by decide +kernel
theorem dX8_oldest_39 : decode cX8_oldest 39 = .ok (.goto 4, 3) := by decide +kernel
theorem dX8_oldest_42 : decode cX8_oldest 42 = .ok (.iload_n 1, 1) := by decide +kernel
theorem dX8_oldest_43 : decode cX8_oldest 43 = .ok (.istore_n 1, 1) := by decide +kernel
theorem dX8_oldest_44 : decode cX8_oldest 44 = .ok (.iinc 2 1, 3) := by decide +kernel
theorem dX8_oldest_47 : decode cX8_oldest 47 = .ok (.goto (-43), 3) := by decide +kernel
theorem dX8_oldest_50 : decode cX8_oldest 50 = .ok (.iload_n 1, 1) := by decide +kernel
theorem dX8_oldest_51 : decode cX8_oldest 51 = .ok (.ireturn, 1) := by decide +kernel
def fM_oldest_4 (u : Nat) (g : mS) (s1 : Int32 × Int32) : Option ((Int32 × Int32) ⊕ (Int32)) :=
  if (iz 8) ≤ s1.2 then
    some (.inr s1.1)
  else
    (fM_isOn u g s1.2).bind fun b2 =>
    (if b2 = true then
       if s1.1 = (iz (-1)) then
         some s1.2
       else
         (fM_of u g s1.2 (iz 1)).bind fun x3 =>
         (fM_of u g s1.1 (iz 1)).bind fun x4 =>
         if x4 ≤ x3 then
           some s1.1
         else
           some s1.2
     else
       some s1.1 : Option (Int32)).bind fun s5 =>
    some (.inl (s5, (s1.2 + iz 1)))
def fM_oldest (u : Nat) (g : mS) : Option (Int32) :=
  (nx_iter u (fM_oldest_4 u g) ((iz (-1)), (iz 0))).bind fun e6 =>
  some e6
set_option maxRecDepth 4000 in
theorem jM_oldest_4 {Γ : nx_G} {M0 : nx_M} {m : Nat} (u : Nat) (g : mS)   (X : nx_X) (Z : nx_Z) (s1 : Int32 × Int32) : nx_J Γ X (RX8, cX8_oldest, 3, (some .int), "oldest", 4) Z (Sum.elim (fun s1 : Int32 × Int32 => .inl (4, [some (.ref m), some (.int s1.1), some (.int s1.2)], [], (mW Γ M0 m g))) (fun e6 : Int32 => .inl (50, [some (.ref m), some (.int e6), none], [], (mW Γ M0 m g)))) (.inl (4, [some (.ref m), some (.int s1.1), some (.int s1.2)], [], (mW Γ M0 m g))) (fM_oldest_4 u g s1) := by
  unfold fM_oldest_4
  refine nx_iload_n rfl dX8_oldest_4 rfl ?_
  refine nx_bipush (by decide +kernel) dX8_oldest_5 rfl ?_
  refine nx_icmp_ge (t := 50) dX8_oldest_7 (by decide) rfl ?_ ?_
  · refine nx_weak (ls' := [some (.ref m), some (.int s1.1), none]) (nx_wk_s (nx_wk_s (nx_wk_n nx_wk_e))) ?_
    obtain ⟨_, _⟩ := s1
    exact nx_leaf rfl
  · refine nx_aload_n rfl dX8_oldest_10 rfl ?_
    refine nx_iload_n rfl dX8_oldest_11 rfl ?_
    refine nx_callVr [.int s1.2] (fun r => .int (bz r)) (fun _ => (mW Γ M0 m g)) cw_8_180 cv_X8_isOn (fun r e => cM_isOn X.2.1  e) mW_m rfl rfl (Nat.le_of_ble_eq_true rfl) (Nat.le_of_ble_eq_true rfl) dX8_oldest_12 rfl (fun b2 => ?_)
    refine nx_seq (C1 := fun s5 : Int32 => .inl (43, [some (.ref m), some (.int s1.1), some (.int s1.2)], [.int s5], (mW Γ M0 m g))) ?_ (fun s5 => ?_)
    · refine nx_ifz_eq (t := 42) dX8_oldest_15 (by decide) rfl ?_ ?_
      · refine nx_iload_n rfl dX8_oldest_42 rfl ?_
        obtain ⟨_, _⟩ := s1
        exact nx_leaf rfl
      · refine nx_iload_n rfl dX8_oldest_18 rfl ?_
        refine nx_iconst dX8_oldest_19 rfl ?_
        refine nx_icmp_eq (t := 38) dX8_oldest_20 (by decide) rfl ?_ ?_
        · refine nx_iload_n rfl dX8_oldest_38 rfl ?_
          refine nx_goto (q := 43) dX8_oldest_39 (by decide) ?_
          obtain ⟨_, _⟩ := s1
          exact nx_leaf rfl
        · refine nx_aload_n rfl dX8_oldest_23 rfl ?_
          refine nx_iload_n rfl dX8_oldest_24 rfl ?_
          refine nx_iconst dX8_oldest_25 rfl ?_
          refine nx_callVr [.int s1.2, .int (iz 1)] (fun r => .int r) (fun _ => (mW Γ M0 m g)) cw_8_165 cv_X8_of (fun r e => cM_of X.2.1  e) mW_m rfl rfl (Nat.le_of_ble_eq_true rfl) (Nat.le_of_ble_eq_true rfl) dX8_oldest_26 rfl (fun x3 => ?_)
          refine nx_aload_n rfl dX8_oldest_29 rfl ?_
          refine nx_iload_n rfl dX8_oldest_30 rfl ?_
          refine nx_iconst dX8_oldest_31 rfl ?_
          refine nx_callVr [.int s1.1, .int (iz 1)] (fun r => .int r) (fun _ => (mW Γ M0 m g)) cw_8_165 cv_X8_of (fun r e => cM_of X.2.1  e) mW_m rfl rfl (Nat.le_of_ble_eq_true rfl) (Nat.le_of_ble_eq_true rfl) dX8_oldest_32 rfl (fun x4 => ?_)
          refine nx_icmp_ge (t := 42) dX8_oldest_35 (by decide) rfl ?_ ?_
          · refine nx_iload_n rfl dX8_oldest_42 rfl ?_
            obtain ⟨_, _⟩ := s1
            exact nx_leaf rfl
          · refine nx_iload_n rfl dX8_oldest_38 rfl ?_
            refine nx_goto (q := 43) dX8_oldest_39 (by decide) ?_
            obtain ⟨_, _⟩ := s1
            exact nx_leaf rfl
    refine nx_istore_n [some (.ref m), some (.int s5), some (.int s1.2)] dX8_oldest_43 rfl (Nat.le_of_ble_eq_true rfl) rfl rfl ?_
    refine nx_iinc [some (.ref m), some (.int s5), some (.int (s1.2 + iz 1))] dX8_oldest_44 rfl rfl (Nat.le_of_ble_eq_true rfl) rfl rfl ?_
    refine nx_goto (q := 4) dX8_oldest_47 (by decide) ?_
    obtain ⟨_, _⟩ := s1
    exact nx_leaf rfl
set_option maxRecDepth 4000 in
theorem jM_oldest {Γ : nx_G} {M0 : nx_M} {m : Nat} (u : Nat) (g : mS)   (X : nx_X) (Z : nx_Z) : nx_J Γ X (RX8, cX8_oldest, 3, (some .int), "oldest", 4) Z (fun r0 : Int32 => .inr (some (.int r0), (mW Γ M0 m g))) (.inl (0, [some (.ref m), none, none], [], (mW Γ M0 m g))) (fM_oldest u g) := by
  unfold fM_oldest
  refine nx_iconst dX8_oldest_0 rfl ?_
  refine nx_istore_n [some (.ref m), some (.int (iz (-1))), none] dX8_oldest_1 rfl (Nat.le_of_ble_eq_true rfl) rfl rfl ?_
  refine nx_iconst dX8_oldest_2 rfl ?_
  refine nx_istore_n [some (.ref m), some (.int (iz (-1))), some (.int (iz 0))] dX8_oldest_3 rfl (Nat.le_of_ble_eq_true rfl) rfl rfl ?_
  refine nx_seq (C1 := fun e6 : Int32 => .inl (50, [some (.ref m), some (.int e6), none], [], (mW Γ M0 m g))) (nx_loop (C1 := fun s1 : Int32 × Int32 => .inl (4, [some (.ref m), some (.int s1.1), some (.int s1.2)], [], (mW Γ M0 m g))) (fun s1 => jM_oldest_4  u g X Z s1) ((iz (-1)), (iz 0))) (fun e6 => ?_)
  refine nx_iload_n rfl dX8_oldest_50 rfl ?_
  exact nx_iret dX8_oldest_51 rfl rfl
theorem cM_oldest (l : Launch) {Γ : nx_G} {M0 : nx_M} {m : Nat} {u : Nat} {g : mS} {r : Int32}  (h : fM_oldest u g = some r) : nx_Ct l Γ 4 yX8_oldest cX8_oldest 3 (some .int) [.ref m] (mW Γ M0 m g) (some (.int r), (mW Γ M0 m g)) :=
  nx_ct (out := fun r0 : Int32 => (some (.int r0), (mW Γ M0 m g))) [some (.ref m), none, none] pn_RX8 h (Nat.le_of_ble_eq_true rfl) rfl (fun X Z _ => jM_oldest  u g X Z)
theorem dX8_fullest_0 : decode cX8_fullest 0 = .ok (.iconst 0, 1) := by decide +kernel
theorem dX8_fullest_1 : decode cX8_fullest 1 = .ok (.istore_n 1, 1) := by decide +kernel
theorem dX8_fullest_2 : decode cX8_fullest 2 = .ok (.iconst 1, 1) := by decide +kernel
theorem dX8_fullest_3 : decode cX8_fullest 3 = .ok (.istore_n 2, 1) := by decide +kernel
theorem dX8_fullest_4 : decode cX8_fullest 4 = .ok (.iload_n 2, 1) := by decide +kernel
theorem dX8_fullest_5 : decode cX8_fullest 5 = .ok (.aload_n 0, 1) := by decide +kernel
theorem dX8_fullest_6 : decode cX8_fullest 6 = .ok (.getfield 142, 3) := by decide +kernel
theorem dX8_fullest_9 : decode cX8_fullest 9 = .ok (.if_icmp .ge 28, 3) := by decide +kernel
theorem dX8_fullest_12 : decode cX8_fullest 12 = .ok (.aload_n 0, 1) := by decide +kernel
theorem dX8_fullest_13 : decode cX8_fullest 13 = .ok (.iload_n 2, 1) := by decide +kernel
theorem dX8_fullest_14 : decode cX8_fullest 14 = .ok (.invokevirtual 171, 3) := by decide +kernel
theorem dX8_fullest_17 : decode cX8_fullest 17 = .ok (.aload_n 0, 1) := by decide +kernel
theorem dX8_fullest_18 : decode cX8_fullest 18 = .ok (.iload_n 1, 1) := by decide +kernel
theorem dX8_fullest_19 : decode cX8_fullest 19 = .ok (.invokevirtual 171, 3) := by decide +kernel
theorem dX8_fullest_22 : decode cX8_fullest 22 = .ok (.if_icmp .le 7, 3) := by decide +kernel
theorem dX8_fullest_25 : decode cX8_fullest 25 = .ok (.iload_n 2, 1) := by decide +kernel
theorem dX8_fullest_26 : decode cX8_fullest 26 = .ok (.goto 4, 3) := by decide +kernel
theorem dX8_fullest_29 : decode cX8_fullest 29 = .ok (.iload_n 1, 1) := by decide +kernel
theorem dX8_fullest_30 : decode cX8_fullest 30 = .ok (.istore_n 1, 1) := by decide +kernel
theorem dX8_fullest_31 : decode cX8_fullest 31 = .ok (.iinc 2 1, 3) := by decide +kernel
theorem dX8_fullest_34 : decode cX8_fullest 34 = .ok (.goto (-30), 3) := by decide +kernel
theorem dX8_fullest_37 : decode cX8_fullest 37 = .ok (.iload_n 1, 1) := by decide +kernel
theorem dX8_fullest_38 : decode cX8_fullest 38 = .ok (.ireturn, 1) := by decide +kernel
def fM_fullest_4 (u : Nat) (g : mS) (s1 : Int32 × Int32) : Option ((Int32 × Int32) ⊕ (Int32)) :=
  if (g.1 0 9) ≤ s1.2 then
    some (.inr s1.1)
  else
    (fM_many u g s1.2).bind fun x2 =>
    (fM_many u g s1.1).bind fun x3 =>
    (if x2 ≤ x3 then
       some s1.1
     else
       some s1.2 : Option (Int32)).bind fun s4 =>
    some (.inl (s4, (s1.2 + iz 1)))
def fM_fullest (u : Nat) (g : mS) : Option (Int32) :=
  (nx_iter u (fM_fullest_4 u g) ((iz 0), (iz 1))).bind fun e5 =>
  some e5
set_option maxRecDepth 4000 in
theorem jM_fullest_4 {Γ : nx_G} {M0 : nx_M} {m : Nat} (u : Nat) (g : mS)   (X : nx_X) (Z : nx_Z) (s1 : Int32 × Int32) : nx_J Γ X (RX8, cX8_fullest, 3, (some .int), "fullest", 3) Z (Sum.elim (fun s1 : Int32 × Int32 => .inl (4, [some (.ref m), some (.int s1.1), some (.int s1.2)], [], (mW Γ M0 m g))) (fun e5 : Int32 => .inl (37, [some (.ref m), some (.int e5), none], [], (mW Γ M0 m g)))) (.inl (4, [some (.ref m), some (.int s1.1), some (.int s1.2)], [], (mW Γ M0 m g))) (fM_fullest_4 u g s1) := by
  unfold fM_fullest_4
  refine nx_iload_n rfl dX8_fullest_4 rfl ?_
  refine nx_aload_n rfl dX8_fullest_5 rfl ?_
  refine nx_getf fl_8_142 mW_m rfl dX8_fullest_6 rfl ?_
  refine nx_icmp_ge (t := 37) dX8_fullest_9 (by decide) rfl ?_ ?_
  · refine nx_weak (ls' := [some (.ref m), some (.int s1.1), none]) (nx_wk_s (nx_wk_s (nx_wk_n nx_wk_e))) ?_
    obtain ⟨_, _⟩ := s1
    exact nx_leaf rfl
  · refine nx_aload_n rfl dX8_fullest_12 rfl ?_
    refine nx_iload_n rfl dX8_fullest_13 rfl ?_
    refine nx_callVr [.int s1.2] (fun r => .int r) (fun _ => (mW Γ M0 m g)) cw_8_171 cv_X8_many (fun r e => cM_many X.2.1  e) mW_m rfl rfl (Nat.le_of_ble_eq_true rfl) (Nat.le_of_ble_eq_true rfl) dX8_fullest_14 rfl (fun x2 => ?_)
    refine nx_aload_n rfl dX8_fullest_17 rfl ?_
    refine nx_iload_n rfl dX8_fullest_18 rfl ?_
    refine nx_callVr [.int s1.1] (fun r => .int r) (fun _ => (mW Γ M0 m g)) cw_8_171 cv_X8_many (fun r e => cM_many X.2.1  e) mW_m rfl rfl (Nat.le_of_ble_eq_true rfl) (Nat.le_of_ble_eq_true rfl) dX8_fullest_19 rfl (fun x3 => ?_)
    refine nx_seq (C1 := fun s4 : Int32 => .inl (30, [some (.ref m), some (.int s1.1), some (.int s1.2)], [.int s4], (mW Γ M0 m g))) ?_ (fun s4 => ?_)
    · refine nx_icmp_le (t := 29) dX8_fullest_22 (by decide) rfl ?_ ?_
      · refine nx_iload_n rfl dX8_fullest_29 rfl ?_
        obtain ⟨_, _⟩ := s1
        exact nx_leaf rfl
      · refine nx_iload_n rfl dX8_fullest_25 rfl ?_
        refine nx_goto (q := 30) dX8_fullest_26 (by decide) ?_
        obtain ⟨_, _⟩ := s1
        exact nx_leaf rfl
    refine nx_istore_n [some (.ref m), some (.int s4), some (.int s1.2)] dX8_fullest_30 rfl (Nat.le_of_ble_eq_true rfl) rfl rfl ?_
    refine nx_iinc [some (.ref m), some (.int s4), some (.int (s1.2 + iz 1))] dX8_fullest_31 rfl rfl (Nat.le_of_ble_eq_true rfl) rfl rfl ?_
    refine nx_goto (q := 4) dX8_fullest_34 (by decide) ?_
    obtain ⟨_, _⟩ := s1
    exact nx_leaf rfl
set_option maxRecDepth 4000 in
theorem jM_fullest {Γ : nx_G} {M0 : nx_M} {m : Nat} (u : Nat) (g : mS)   (X : nx_X) (Z : nx_Z) : nx_J Γ X (RX8, cX8_fullest, 3, (some .int), "fullest", 3) Z (fun r0 : Int32 => .inr (some (.int r0), (mW Γ M0 m g))) (.inl (0, [some (.ref m), none, none], [], (mW Γ M0 m g))) (fM_fullest u g) := by
  unfold fM_fullest
  refine nx_iconst dX8_fullest_0 rfl ?_
  refine nx_istore_n [some (.ref m), some (.int (iz 0)), none] dX8_fullest_1 rfl (Nat.le_of_ble_eq_true rfl) rfl rfl ?_
  refine nx_iconst dX8_fullest_2 rfl ?_
  refine nx_istore_n [some (.ref m), some (.int (iz 0)), some (.int (iz 1))] dX8_fullest_3 rfl (Nat.le_of_ble_eq_true rfl) rfl rfl ?_
  refine nx_seq (C1 := fun e5 : Int32 => .inl (37, [some (.ref m), some (.int e5), none], [], (mW Γ M0 m g))) (nx_loop (C1 := fun s1 : Int32 × Int32 => .inl (4, [some (.ref m), some (.int s1.1), some (.int s1.2)], [], (mW Γ M0 m g))) (fun s1 => jM_fullest_4  u g X Z s1) ((iz 0), (iz 1))) (fun e5 => ?_)
  refine nx_iload_n rfl dX8_fullest_37 rfl ?_
  exact nx_iret dX8_fullest_38 rfl rfl
theorem cM_fullest (l : Launch) {Γ : nx_G} {M0 : nx_M} {m : Nat} {u : Nat} {g : mS} {r : Int32}  (h : fM_fullest u g = some r) : nx_Ct l Γ 3 yX8_fullest cX8_fullest 3 (some .int) [.ref m] (mW Γ M0 m g) (some (.int r), (mW Γ M0 m g)) :=
  nx_ct (out := fun r0 : Int32 => (some (.int r0), (mW Γ M0 m g))) [some (.ref m), none, none] pn_RX8 h (Nat.le_of_ble_eq_true rfl) rfl (fun X Z _ => jM_fullest  u g X Z)
theorem dX8_worst_0 : decode cX8_worst 0 = .ok (.iconst (-1), 1) := by decide +kernel
theorem dX8_worst_1 : decode cX8_worst 1 = .ok (.istore_n 1, 1) := by decide +kernel
theorem dX8_worst_2 : decode cX8_worst 2 = .ok (.iconst 0, 1) := by decide +kernel
theorem dX8_worst_3 : decode cX8_worst 3 = .ok (.istore_n 2, 1) := by decide +kernel
theorem dX8_worst_4 : decode cX8_worst 4 = .ok (.iload_n 2, 1) := by decide +kernel
theorem dX8_worst_5 : decode cX8_worst 5 = .ok (.bipush 8, 2) := by decide +kernel
theorem dX8_worst_7 : decode cX8_worst 7 = .ok (.if_icmp .ge 47, 3) := by decide +kernel
theorem dX8_worst_10 : decode cX8_worst 10 = .ok (.aload_n 0, 1) := by decide +kernel
theorem dX8_worst_11 : decode cX8_worst 11 = .ok (.iload_n 2, 1) := by decide +kernel
theorem dX8_worst_12 : decode cX8_worst 12 = .ok (.invokevirtual 180, 3) := by decide +kernel
theorem dX8_worst_15 : decode cX8_worst 15 = .ok (.ifCond .eq 31, 3) := by decide +kernel
theorem dX8_worst_18 : decode cX8_worst 18 = .ok (.iload_n 1, 1) := by decide +kernel
theorem dX8_worst_19 : decode cX8_worst 19 = .ok (.iconst (-1), 1) := by decide +kernel
theorem dX8_worst_20 : decode cX8_worst 20 = .ok (.if_icmp .eq 22, 3) := by decide +kernel
theorem dX8_worst_23 : decode cX8_worst 23 = .ok (.aload_n 0, 1) := by decide +kernel
theorem dX8_worst_24 : decode cX8_worst 24 = .ok (.iload_n 2, 1) := by decide +kernel
theorem dX8_worst_25 : decode cX8_worst 25 = .ok (.invokevirtual 346, 3) := by decide +kernel
theorem dX8_worst_28 : decode cX8_worst 28 = .ok (.invokestatic 260, 3) := by decide +kernel
theorem dX8_worst_31 : decode cX8_worst 31 = .ok (.aload_n 0, 1) := by decide +kernel
theorem dX8_worst_32 : decode cX8_worst 32 = .ok (.iload_n 1, 1) := by decide +kernel
theorem dX8_worst_33 : decode cX8_worst 33 = .ok (.invokevirtual 346, 3) := by decide +kernel
theorem dX8_worst_36 : decode cX8_worst 36 = .ok (.invokestatic 260, 3) := by decide +kernel
theorem dX8_worst_39 : decode cX8_worst 39 = .ok (.if_icmp .le 7, 3) := by decide +kernel
theorem dX8_worst_42 : decode cX8_worst 42 = .ok (.iload_n 2, 1) := by decide +kernel
theorem dX8_worst_43 : decode cX8_worst 43 = .ok (.goto 4, 3) := by decide +kernel
theorem dX8_worst_46 : decode cX8_worst 46 = .ok (.iload_n 1, 1) := by decide +kernel
theorem dX8_worst_47 : decode cX8_worst 47 = .ok (.istore_n 1, 1) := by decide +kernel
theorem dX8_worst_48 : decode cX8_worst 48 = .ok (.iinc 2 1, 3) := by decide +kernel
theorem dX8_worst_51 : decode cX8_worst 51 = .ok (.goto (-47), 3) := by decide +kernel
theorem dX8_worst_54 : decode cX8_worst 54 = .ok (.iload_n 1, 1) := by decide +kernel
theorem dX8_worst_55 : decode cX8_worst 55 = .ok (.ireturn, 1) := by decide +kernel
def fM_worst_4 (u : Nat) (g : mS) (s1 : Int32 × Int32) : Option ((Int32 × Int32) ⊕ (Int32)) :=
  if (iz 8) ≤ s1.2 then
    some (.inr s1.1)
  else
    (fM_isOn u g s1.2).bind fun b2 =>
    (if b2 = true then
       if s1.1 = (iz (-1)) then
         some s1.2
       else
         (fM_fallsWith u g s1.2).bind fun x3 =>
         (fM_bits u x3).bind fun x4 =>
         (fM_fallsWith u g s1.1).bind fun x5 =>
         (fM_bits u x5).bind fun x6 =>
         if x4 ≤ x6 then
           some s1.1
         else
           some s1.2
     else
       some s1.1 : Option (Int32)).bind fun s7 =>
    some (.inl (s7, (s1.2 + iz 1)))
def fM_worst (u : Nat) (g : mS) : Option (Int32) :=
  (nx_iter u (fM_worst_4 u g) ((iz (-1)), (iz 0))).bind fun e8 =>
  some e8
set_option maxRecDepth 4000 in
theorem jM_worst_4 {Γ : nx_G} {M0 : nx_M} {m : Nat} (u : Nat) (g : mS)   (X : nx_X) (Z : nx_Z) (s1 : Int32 × Int32) : nx_J Γ X (RX8, cX8_worst, 3, (some .int), "worst", 5) Z (Sum.elim (fun s1 : Int32 × Int32 => .inl (4, [some (.ref m), some (.int s1.1), some (.int s1.2)], [], (mW Γ M0 m g))) (fun e8 : Int32 => .inl (54, [some (.ref m), some (.int e8), none], [], (mW Γ M0 m g)))) (.inl (4, [some (.ref m), some (.int s1.1), some (.int s1.2)], [], (mW Γ M0 m g))) (fM_worst_4 u g s1) := by
  unfold fM_worst_4
  refine nx_iload_n rfl dX8_worst_4 rfl ?_
  refine nx_bipush (by decide +kernel) dX8_worst_5 rfl ?_
  refine nx_icmp_ge (t := 54) dX8_worst_7 (by decide) rfl ?_ ?_
  · refine nx_weak (ls' := [some (.ref m), some (.int s1.1), none]) (nx_wk_s (nx_wk_s (nx_wk_n nx_wk_e))) ?_
    obtain ⟨_, _⟩ := s1
    exact nx_leaf rfl
  · refine nx_aload_n rfl dX8_worst_10 rfl ?_
    refine nx_iload_n rfl dX8_worst_11 rfl ?_
    refine nx_callVr [.int s1.2] (fun r => .int (bz r)) (fun _ => (mW Γ M0 m g)) cw_8_180 cv_X8_isOn (fun r e => cM_isOn X.2.1  e) mW_m rfl rfl (Nat.le_of_ble_eq_true rfl) (Nat.le_of_ble_eq_true rfl) dX8_worst_12 rfl (fun b2 => ?_)
    refine nx_seq (C1 := fun s7 : Int32 => .inl (47, [some (.ref m), some (.int s1.1), some (.int s1.2)], [.int s7], (mW Γ M0 m g))) ?_ (fun s7 => ?_)
    · refine nx_ifz_eq (t := 46) dX8_worst_15 (by decide) rfl ?_ ?_
      · refine nx_iload_n rfl dX8_worst_46 rfl ?_
        obtain ⟨_, _⟩ := s1
        exact nx_leaf rfl
      · refine nx_iload_n rfl dX8_worst_18 rfl ?_
        refine nx_iconst dX8_worst_19 rfl ?_
        refine nx_icmp_eq (t := 42) dX8_worst_20 (by decide) rfl ?_ ?_
        · refine nx_iload_n rfl dX8_worst_42 rfl ?_
          refine nx_goto (q := 47) dX8_worst_43 (by decide) ?_
          obtain ⟨_, _⟩ := s1
          exact nx_leaf rfl
        · refine nx_aload_n rfl dX8_worst_23 rfl ?_
          refine nx_iload_n rfl dX8_worst_24 rfl ?_
          refine nx_callVr [.int s1.2] (fun r => .int r) (fun _ => (mW Γ M0 m g)) cw_8_346 cv_X8_fallsWith (fun r e => cM_fallsWith X.2.1  e) mW_m rfl rfl (Nat.le_of_ble_eq_true rfl) (Nat.le_of_ble_eq_true rfl) dX8_worst_25 rfl (fun x3 => ?_)
          refine nx_callSr [.int x3] (fun r => .int r) (fun _ => (mW Γ M0 m g)) cw_8_260 wd_1488 (fun r e => cM_bits X.2.1  e) rfl rfl (Nat.le_of_ble_eq_true rfl) (Nat.le_of_ble_eq_true rfl) dX8_worst_28 rfl (fun x4 => ?_)
          refine nx_aload_n rfl dX8_worst_31 rfl ?_
          refine nx_iload_n rfl dX8_worst_32 rfl ?_
          refine nx_callVr [.int s1.1] (fun r => .int r) (fun _ => (mW Γ M0 m g)) cw_8_346 cv_X8_fallsWith (fun r e => cM_fallsWith X.2.1  e) mW_m rfl rfl (Nat.le_of_ble_eq_true rfl) (Nat.le_of_ble_eq_true rfl) dX8_worst_33 rfl (fun x5 => ?_)
          refine nx_callSr [.int x5] (fun r => .int r) (fun _ => (mW Γ M0 m g)) cw_8_260 wd_1488 (fun r e => cM_bits X.2.1  e) rfl rfl (Nat.le_of_ble_eq_true rfl) (Nat.le_of_ble_eq_true rfl) dX8_worst_36 rfl (fun x6 => ?_)
          refine nx_icmp_le (t := 46) dX8_worst_39 (by decide) rfl ?_ ?_
          · refine nx_iload_n rfl dX8_worst_46 rfl ?_
            obtain ⟨_, _⟩ := s1
            exact nx_leaf rfl
          · refine nx_iload_n rfl dX8_worst_42 rfl ?_
            refine nx_goto (q := 47) dX8_worst_43 (by decide) ?_
            obtain ⟨_, _⟩ := s1
            exact nx_leaf rfl
    refine nx_istore_n [some (.ref m), some (.int s7), some (.int s1.2)] dX8_worst_47 rfl (Nat.le_of_ble_eq_true rfl) rfl rfl ?_
    refine nx_iinc [some (.ref m), some (.int s7), some (.int (s1.2 + iz 1))] dX8_worst_48 rfl rfl (Nat.le_of_ble_eq_true rfl) rfl rfl ?_
    refine nx_goto (q := 4) dX8_worst_51 (by decide) ?_
    obtain ⟨_, _⟩ := s1
    exact nx_leaf rfl
set_option maxRecDepth 4000 in
theorem jM_worst {Γ : nx_G} {M0 : nx_M} {m : Nat} (u : Nat) (g : mS)   (X : nx_X) (Z : nx_Z) : nx_J Γ X (RX8, cX8_worst, 3, (some .int), "worst", 5) Z (fun r0 : Int32 => .inr (some (.int r0), (mW Γ M0 m g))) (.inl (0, [some (.ref m), none, none], [], (mW Γ M0 m g))) (fM_worst u g) := by
  unfold fM_worst
  refine nx_iconst dX8_worst_0 rfl ?_
  refine nx_istore_n [some (.ref m), some (.int (iz (-1))), none] dX8_worst_1 rfl (Nat.le_of_ble_eq_true rfl) rfl rfl ?_
  refine nx_iconst dX8_worst_2 rfl ?_
  refine nx_istore_n [some (.ref m), some (.int (iz (-1))), some (.int (iz 0))] dX8_worst_3 rfl (Nat.le_of_ble_eq_true rfl) rfl rfl ?_
  refine nx_seq (C1 := fun e8 : Int32 => .inl (54, [some (.ref m), some (.int e8), none], [], (mW Γ M0 m g))) (nx_loop (C1 := fun s1 : Int32 × Int32 => .inl (4, [some (.ref m), some (.int s1.1), some (.int s1.2)], [], (mW Γ M0 m g))) (fun s1 => jM_worst_4  u g X Z s1) ((iz (-1)), (iz 0))) (fun e8 => ?_)
  refine nx_iload_n rfl dX8_worst_54 rfl ?_
  exact nx_iret dX8_worst_55 rfl rfl
theorem cM_worst (l : Launch) {Γ : nx_G} {M0 : nx_M} {m : Nat} {u : Nat} {g : mS} {r : Int32}  (h : fM_worst u g = some r) : nx_Ct l Γ 5 yX8_worst cX8_worst 3 (some .int) [.ref m] (mW Γ M0 m g) (some (.int r), (mW Γ M0 m g)) :=
  nx_ct (out := fun r0 : Int32 => (some (.int r0), (mW Γ M0 m g))) [some (.ref m), none, none] pn_RX8 h (Nat.le_of_ble_eq_true rfl) rfl (fun X Z _ => jM_worst  u g X Z)
theorem dX8_chain_0 : decode cX8_chain 0 = .ok (.iconst 0, 1) := by decide +kernel
theorem dX8_chain_1 : decode cX8_chain 1 = .ok (.istore_n 1, 1) := by decide +kernel
theorem dX8_chain_2 : decode cX8_chain 2 = .ok (.iload_n 1, 1) := by decide +kernel
theorem dX8_chain_3 : decode cX8_chain 3 = .ok (.bipush 8, 2) := by decide +kernel
theorem dX8_chain_5 : decode cX8_chain 5 = .ok (.if_icmp .ge 28, 3) := by decide +kernel
theorem dX8_chain_8 : decode cX8_chain 8 = .ok (.aload_n 0, 1) := by decide +kernel
theorem dX8_chain_9 : decode cX8_chain 9 = .ok (.getfield 44, 3) := by decide +kernel
theorem dX8_chain_12 : decode cX8_chain 12 = .ok (.iload_n 1, 1) := by decide +kernel
theorem dX8_chain_13 : decode cX8_chain 13 = .ok (.aload_n 0, 1) := by decide +kernel
theorem dX8_chain_14 : decode cX8_chain 14 = .ok (.iload_n 1, 1) := by decide +kernel
theorem dX8_chain_15 : decode cX8_chain 15 = .ok (.invokevirtual 180, 3) := by decide +kernel
theorem dX8_chain_18 : decode cX8_chain 18 = .ok (.ifCond .eq 7, 3) := by decide +kernel
theorem dX8_chain_21 : decode cX8_chain 21 = .ok (.iconst 1, 1) := by decide +kernel
theorem dX8_chain_22 : decode cX8_chain 22 = .ok (.goto 4, 3) := by decide +kernel
theorem dX8_chain_25 : decode cX8_chain 25 = .ok (.iconst 0, 1) := by decide +kernel
theorem dX8_chain_26 : decode cX8_chain 26 = .ok (.iastore, 1) := by decide +kernel
theorem dX8_chain_27 : decode cX8_chain 27 = .ok (.iinc 1 1, 3) := by decide +kernel
theorem dX8_chain_30 : decode cX8_chain 30 = .ok (.goto (-28), 3) := by decide +kernel
theorem dX8_chain_33 : decode cX8_chain 33 = .ok (.iconst 0, 1) := by decide +kernel
theorem dX8_chain_34 : decode cX8_chain 34 = .ok (.istore_n 1, 1) := by decide +kernel
theorem dX8_chain_35 : decode cX8_chain 35 = .ok (.iconst 0, 1) := by decide +kernel
theorem dX8_chain_36 : decode cX8_chain 36 = .ok (.istore_n 2, 1) := by decide +kernel
theorem dX8_chain_37 : decode cX8_chain 37 = .ok (.iload_n 2, 1) := by decide +kernel
theorem dX8_chain_38 : decode cX8_chain 38 = .ok (.bipush 8, 2) := by decide +kernel
theorem dX8_chain_40 : decode cX8_chain 40 = .ok (.if_icmp .ge 114, 3) := by decide +kernel
theorem dX8_chain_43 : decode cX8_chain 43 = .ok (.iconst 0, 1) := by decide +kernel
theorem dX8_chain_44 : decode cX8_chain 44 = .ok (.istore_n 3, 1) := by decide +kernel
theorem dX8_chain_45 : decode cX8_chain 45 = .ok (.iload_n 3, 1) := by decide +kernel
theorem dX8_chain_46 : decode cX8_chain 46 = .ok (.bipush 8, 2) := by decide +kernel
theorem dX8_chain_48 : decode cX8_chain 48 = .ok (.if_icmp .ge 100, 3) := by decide +kernel
theorem dX8_chain_51 : decode cX8_chain 51 = .ok (.iconst 0, 1) := by decide +kernel
theorem dX8_chain_52 : decode cX8_chain 52 = .ok (.istore 4, 2) := by decide +kernel
theorem dX8_chain_54 : decode cX8_chain 54 = .ok (.iload 4, 2) := by decide +kernel
theorem dX8_chain_56 : decode cX8_chain 56 = .ok (.bipush 8, 2) := by decide +kernel
theorem dX8_chain_58 : decode cX8_chain 58 = .ok (.if_icmp .ge 73, 3) := by decide +kernel
theorem dX8_chain_61 : decode cX8_chain 61 = .ok (.aload_n 0, 1) := by decide +kernel
theorem dX8_chain_62 : decode cX8_chain 62 = .ok (.getfield 44, 3) := by decide +kernel
theorem dX8_chain_65 : decode cX8_chain 65 = .ok (.iload_n 3, 1) := by decide +kernel
theorem dX8_chain_66 : decode cX8_chain 66 = .ok (.aload_n 0, 1) := by decide +kernel
theorem dX8_chain_67 : decode cX8_chain 67 = .ok (.iload_n 3, 1) := by decide +kernel
theorem dX8_chain_68 : decode cX8_chain 68 = .ok (.invokevirtual 180, 3) := by decide +kernel
theorem dX8_chain_71 : decode cX8_chain 71 = .ok (.ifCond .eq 47, 3) := by decide +kernel
theorem dX8_chain_74 : decode cX8_chain 74 = .ok (.aload_n 0, 1) := by decide +kernel
theorem dX8_chain_75 : decode cX8_chain 75 = .ok (.iload_n 3, 1) := by decide +kernel
theorem dX8_chain_76 : decode cX8_chain 76 = .ok (.iconst 3, 1) := by decide +kernel
theorem dX8_chain_77 : decode cX8_chain 77 = .ok (.invokevirtual 165, 3) := by decide +kernel
theorem dX8_chain_80 : decode cX8_chain 80 = .ok (.iload 4, 2) := by decide +kernel
theorem dX8_chain_82 : decode cX8_chain 82 = .ok (.invokestatic 92, 3) := by decide +kernel
theorem dX8_chain_85 : decode cX8_chain 85 = .ok (.ifCond .eq 33, 3) := by decide +kernel
theorem dX8_chain_88 : decode cX8_chain 88 = .ok (.aload_n 0, 1) := by decide +kernel
theorem dX8_chain_89 : decode cX8_chain 89 = .ok (.iload 4, 2) := by decide +kernel
theorem dX8_chain_91 : decode cX8_chain 91 = .ok (.invokevirtual 180, 3) := by decide +kernel
theorem dX8_chain_94 : decode cX8_chain 94 = .ok (.ifCond .eq 24, 3) := by decide +kernel
theorem dX8_chain_97 : decode cX8_chain 97 = .ok (.aload_n 0, 1) := by decide +kernel
theorem dX8_chain_98 : decode cX8_chain 98 = .ok (.getfield 44, 3) := by decide +kernel
theorem dX8_chain_101 : decode cX8_chain 101 = .ok (.iload_n 3, 1) := by decide +kernel
theorem dX8_chain_102 : decode cX8_chain 102 = .ok (.iaload, 1) := by decide +kernel
theorem dX8_chain_103 : decode cX8_chain 103 = .ok (.aload_n 0, 1) := by decide +kernel
theorem dX8_chain_104 : decode cX8_chain 104 = .ok (.getfield 44, 3) := by decide +kernel
theorem dX8_chain_107 : decode cX8_chain 107 = .ok (.iload 4, 2) := by decide +kernel
theorem dX8_chain_109 : decode cX8_chain 109 = .ok (.iaload, 1) := by decide +kernel
theorem dX8_chain_110 : decode cX8_chain 110 = .ok (.iconst 1, 1) := by decide +kernel
theorem dX8_chain_111 : decode cX8_chain 111 = .ok (.iadd, 1) := by decide +kernel
theorem dX8_chain_112 : decode cX8_chain 112 = .ok (.invokestatic 186, 3) := by decide +kernel
theorem dX8_chain_115 : decode cX8_chain 115 = .ok (.goto 9, 3) := by decide +kernel
theorem dX8_chain_118 : decode cX8_chain 118 = .ok (.aload_n 0, 1) := by decide +kernel
theorem dX8_chain_119 : decode cX8_chain 119 = .ok (.getfield 44, 3) := by decide +kernel
theorem dX8_chain_122 : decode cX8_chain 122 = .ok (.iload_n 3, 1) := by decide +kernel
theorem dX8_chain_123 : decode cX8_chain 123 = .ok (.iaload, 1) := by decide +kernel
theorem dX8_chain_124 : decode cX8_chain 124 = .ok (.iastore, 1) := by decide +kernel
theorem dX8_chain_125 : decode cX8_chain 125 = .ok (.iinc 4 1, 3) := by decide +kernel
theorem dX8_chain_128 : decode cX8_chain 128 = .ok (.goto (-74), 3) := by decide +kernel
theorem dX8_chain_131 : decode cX8_chain 131 = .ok (.iload_n 1, 1) := by decide +kernel
theorem dX8_chain_132 : decode cX8_chain 132 = .ok (.aload_n 0, 1) := by decide +kernel
theorem dX8_chain_133 : decode cX8_chain 133 = .ok (.getfield 44, 3) := by decide +kernel
theorem dX8_chain_136 : decode cX8_chain 136 = .ok (.iload_n 3, 1) := by decide +kernel
theorem dX8_chain_137 : decode cX8_chain 137 = .ok (.iaload, 1) := by decide +kernel
theorem dX8_chain_138 : decode cX8_chain 138 = .ok (.invokestatic 186, 3) := by decide +kernel
theorem dX8_chain_141 : decode cX8_chain 141 = .ok (.istore_n 1, 1) := by decide +kernel
theorem dX8_chain_142 : decode cX8_chain 142 = .ok (.iinc 3 1, 3) := by decide +kernel
theorem dX8_chain_145 : decode cX8_chain 145 = .ok (.goto (-100), 3) := by decide +kernel
theorem dX8_chain_148 : decode cX8_chain 148 = .ok (.iinc 2 1, 3) := by decide +kernel
theorem dX8_chain_151 : decode cX8_chain 151 = .ok (.goto (-114), 3) := by decide +kernel
theorem dX8_chain_154 : decode cX8_chain 154 = .ok (.iload_n 1, 1) := by decide +kernel
theorem dX8_chain_155 : decode cX8_chain 155 = .ok (.ireturn, 1) := by decide +kernel
def fM_chain_2 (u : Nat) (s1 : Int32 × mS) : Option ((Int32 × mS) ⊕ (mS)) :=
  if (iz 8) ≤ s1.1 then
    some (.inr s1.2)
  else
    (fM_isOn u s1.2 s1.1).bind fun b2 =>
    (if b2 = true then
       some (iz 1)
     else
       some (iz 0) : Option (Int32)).bind fun s3 =>
    (mWr s1.2 12 s1.1 s3).bind fun g4 =>
    some (.inl ((s1.1 + iz 1), g4))
def fM_chain_54 (u : Nat) (s7 : Int32 × Int32 × mS) (s8 : Int32 × mS) : Option ((Int32 × mS) ⊕ (mS)) :=
  if (iz 8) ≤ s8.1 then
    some (.inr s8.2)
  else
    (fM_isOn u s8.2 s7.2.1).bind fun b9 =>
    (if b9 = true then
       (fM_of u s8.2 s7.2.1 (iz 3)).bind fun x11 =>
       (fM_has u x11 s8.1).bind fun b12 =>
       if b12 = true then
         (fM_isOn u s8.2 s8.1).bind fun b14 =>
         if b14 = true then
           (nx_rd (mlen 12) (s8.2.1 12) s7.2.1).bind fun x16 =>
           (nx_rd (mlen 12) (s8.2.1 12) s8.1).bind fun x17 =>
           some (if x16 < (x17 + (iz 1)) then (x17 + (iz 1)) else x16)
         else
           (nx_rd (mlen 12) (s8.2.1 12) s7.2.1).bind fun x15 =>
           some x15
       else
         (nx_rd (mlen 12) (s8.2.1 12) s7.2.1).bind fun x13 =>
         some x13
     else
       (nx_rd (mlen 12) (s8.2.1 12) s7.2.1).bind fun x10 =>
       some x10 : Option (Int32)).bind fun s18 =>
    (mWr s8.2 12 s7.2.1 s18).bind fun g19 =>
    some (.inl ((s8.1 + iz 1), g19))
def fM_chain_45 (u : Nat) (s7 : Int32 × Int32 × mS) : Option ((Int32 × Int32 × mS) ⊕ (Int32 × mS)) :=
  if (iz 8) ≤ s7.2.1 then
    some (.inr (s7.1, s7.2.2))
  else
    (nx_iter u (fM_chain_54 u s7) ((iz 0), s7.2.2)).bind fun e20 =>
    (nx_rd (mlen 12) (e20.1 12) s7.2.1).bind fun x21 =>
    some (.inl ((if s7.1 < x21 then x21 else s7.1), (s7.2.1 + iz 1), e20))
def fM_chain_37 (u : Nat) (s6 : Int32 × Int32 × mS) : Option ((Int32 × Int32 × mS) ⊕ (Int32 × mS)) :=
  if (iz 8) ≤ s6.2.1 then
    some (.inr (s6.1, s6.2.2))
  else
    (nx_iter u (fM_chain_45 u) (s6.1, (iz 0), s6.2.2)).bind fun e22 =>
    some (.inl (e22.1, (s6.2.1 + iz 1), e22.2))
def fM_chain (u : Nat) (g : mS) : Option (Int32 × mS) :=
  (nx_iter u (fM_chain_2 u) ((iz 0), g)).bind fun e5 =>
  (nx_iter u (fM_chain_37 u) ((iz 0), (iz 0), e5)).bind fun e23 =>
  some (e23.1, e23.2)
set_option maxRecDepth 4000 in
theorem jM_chain_2 {Γ : nx_G} {M0 : nx_M} {m : Nat} (u : Nat)   (X : nx_X) (Z : nx_Z) (s1 : Int32 × mS) : nx_J Γ X (RX8, cX8_chain, 5, (some .int), "chain", 4) Z (Sum.elim (fun s1 : Int32 × mS => .inl (2, [some (.ref m), some (.int s1.1), none, none, none], [], (mW Γ M0 m s1.2))) (fun e5 : mS => .inl (33, [some (.ref m), none, none, none, none], [], (mW Γ M0 m e5)))) (.inl (2, [some (.ref m), some (.int s1.1), none, none, none], [], (mW Γ M0 m s1.2))) (fM_chain_2 u s1) := by
  unfold fM_chain_2
  refine nx_iload_n rfl dX8_chain_2 rfl ?_
  refine nx_bipush (by decide +kernel) dX8_chain_3 rfl ?_
  refine nx_icmp_ge (t := 33) dX8_chain_5 (by decide) rfl ?_ ?_
  · refine nx_weak (ls' := [some (.ref m), none, none, none, none]) (nx_wk_s (nx_wk_n (nx_wk_n (nx_wk_n (nx_wk_n nx_wk_e))))) ?_
    obtain ⟨_, _⟩ := s1
    exact nx_leaf rfl
  · refine nx_aload_n rfl dX8_chain_8 rfl ?_
    refine nx_getf fl_8_44 mW_m rfl dX8_chain_9 rfl ?_
    refine nx_iload_n rfl dX8_chain_12 rfl ?_
    refine nx_aload_n rfl dX8_chain_13 rfl ?_
    refine nx_iload_n rfl dX8_chain_14 rfl ?_
    refine nx_callVr [.int s1.1] (fun r => .int (bz r)) (fun _ => (mW Γ M0 m s1.2)) cw_8_180 cv_X8_isOn (fun r e => cM_isOn X.2.1  e) mW_m rfl rfl (Nat.le_of_ble_eq_true rfl) (Nat.le_of_ble_eq_true rfl) dX8_chain_15 rfl (fun b2 => ?_)
    refine nx_seq (C1 := fun s3 : Int32 => .inl (26, [some (.ref m), some (.int s1.1), none, none, none], [.int s3, .int s1.1, .ref (m + 12)], (mW Γ M0 m s1.2))) ?_ (fun s3 => ?_)
    · refine nx_ifz_eq (t := 25) dX8_chain_18 (by decide) rfl ?_ ?_
      · refine nx_iconst dX8_chain_25 rfl ?_
        obtain ⟨_, _⟩ := s1
        exact nx_leaf rfl
      · refine nx_iconst dX8_chain_21 rfl ?_
        refine nx_goto (q := 26) dX8_chain_22 (by decide) ?_
        obtain ⟨_, _⟩ := s1
        exact nx_leaf rfl
    refine m_iast 12 ⟨Nat.le_of_ble_eq_true rfl, Nat.le_of_ble_eq_true rfl⟩ dX8_chain_26 rfl (fun g4 => ?_)
    refine nx_iinc [some (.ref m), some (.int (s1.1 + iz 1)), none, none, none] dX8_chain_27 rfl rfl (Nat.le_of_ble_eq_true rfl) rfl rfl ?_
    refine nx_goto (q := 2) dX8_chain_30 (by decide) ?_
    obtain ⟨_, _⟩ := s1
    exact nx_leaf rfl
set_option maxRecDepth 4000 in
theorem jM_chain_54 {Γ : nx_G} {M0 : nx_M} {m : Nat} (u : Nat) (s6 : Int32 × Int32 × mS) (s7 : Int32 × Int32 × mS)   (X : nx_X) (Z : nx_Z) (s8 : Int32 × mS) : nx_J Γ X (RX8, cX8_chain, 5, (some .int), "chain", 4) Z (Sum.elim (fun s8 : Int32 × mS => .inl (54, [some (.ref m), some (.int s7.1), some (.int s6.2.1), some (.int s7.2.1), some (.int s8.1)], [], (mW Γ M0 m s8.2))) (fun e20 : mS => .inl (131, [some (.ref m), some (.int s7.1), some (.int s6.2.1), some (.int s7.2.1), none], [], (mW Γ M0 m e20)))) (.inl (54, [some (.ref m), some (.int s7.1), some (.int s6.2.1), some (.int s7.2.1), some (.int s8.1)], [], (mW Γ M0 m s8.2))) (fM_chain_54 u s7 s8) := by
  unfold fM_chain_54
  refine nx_iload rfl dX8_chain_54 rfl ?_
  refine nx_bipush (by decide +kernel) dX8_chain_56 rfl ?_
  refine nx_icmp_ge (t := 131) dX8_chain_58 (by decide) rfl ?_ ?_
  · refine nx_weak (ls' := [some (.ref m), some (.int s7.1), some (.int s6.2.1), some (.int s7.2.1), none]) (nx_wk_s (nx_wk_s (nx_wk_s (nx_wk_s (nx_wk_n nx_wk_e))))) ?_
    obtain ⟨_, _, _⟩ := s6
    obtain ⟨_, _, _⟩ := s7
    obtain ⟨_, _⟩ := s8
    exact nx_leaf rfl
  · refine nx_aload_n rfl dX8_chain_61 rfl ?_
    refine nx_getf fl_8_44 mW_m rfl dX8_chain_62 rfl ?_
    refine nx_iload_n rfl dX8_chain_65 rfl ?_
    refine nx_aload_n rfl dX8_chain_66 rfl ?_
    refine nx_iload_n rfl dX8_chain_67 rfl ?_
    refine nx_callVr [.int s7.2.1] (fun r => .int (bz r)) (fun _ => (mW Γ M0 m s8.2)) cw_8_180 cv_X8_isOn (fun r e => cM_isOn X.2.1  e) mW_m rfl rfl (Nat.le_of_ble_eq_true rfl) (Nat.le_of_ble_eq_true rfl) dX8_chain_68 rfl (fun b9 => ?_)
    refine nx_seq (C1 := fun s18 : Int32 => .inl (124, [some (.ref m), some (.int s7.1), some (.int s6.2.1), some (.int s7.2.1), some (.int s8.1)], [.int s18, .int s7.2.1, .ref (m + 12)], (mW Γ M0 m s8.2))) ?_ (fun s18 => ?_)
    · refine nx_ifz_eq (t := 118) dX8_chain_71 (by decide) rfl ?_ ?_
      · refine nx_aload_n rfl dX8_chain_118 rfl ?_
        refine nx_getf fl_8_44 mW_m rfl dX8_chain_119 rfl ?_
        refine nx_iload_n rfl dX8_chain_122 rfl ?_
        refine m_iald 12 ⟨Nat.le_of_ble_eq_true rfl, Nat.le_of_ble_eq_true rfl⟩ dX8_chain_123 rfl (fun x10 => ?_)
        obtain ⟨_, _, _⟩ := s6
        obtain ⟨_, _, _⟩ := s7
        obtain ⟨_, _⟩ := s8
        exact nx_leaf rfl
      · refine nx_aload_n rfl dX8_chain_74 rfl ?_
        refine nx_iload_n rfl dX8_chain_75 rfl ?_
        refine nx_iconst dX8_chain_76 rfl ?_
        refine nx_callVr [.int s7.2.1, .int (iz 3)] (fun r => .int r) (fun _ => (mW Γ M0 m s8.2)) cw_8_165 cv_X8_of (fun r e => cM_of X.2.1  e) mW_m rfl rfl (Nat.le_of_ble_eq_true rfl) (Nat.le_of_ble_eq_true rfl) dX8_chain_77 rfl (fun x11 => ?_)
        refine nx_iload rfl dX8_chain_80 rfl ?_
        refine nx_callSr [.int x11, .int s8.1] (fun r => .int (bz r)) (fun _ => (mW Γ M0 m s8.2)) cw_8_92 wd_1272 (fun r e => cM_has X.2.1  e) rfl rfl (Nat.le_of_ble_eq_true rfl) (Nat.le_of_ble_eq_true rfl) dX8_chain_82 rfl (fun b12 => ?_)
        refine nx_ifz_eq (t := 118) dX8_chain_85 (by decide) rfl ?_ ?_
        · refine nx_aload_n rfl dX8_chain_118 rfl ?_
          refine nx_getf fl_8_44 mW_m rfl dX8_chain_119 rfl ?_
          refine nx_iload_n rfl dX8_chain_122 rfl ?_
          refine m_iald 12 ⟨Nat.le_of_ble_eq_true rfl, Nat.le_of_ble_eq_true rfl⟩ dX8_chain_123 rfl (fun x13 => ?_)
          obtain ⟨_, _, _⟩ := s6
          obtain ⟨_, _, _⟩ := s7
          obtain ⟨_, _⟩ := s8
          exact nx_leaf rfl
        · refine nx_aload_n rfl dX8_chain_88 rfl ?_
          refine nx_iload rfl dX8_chain_89 rfl ?_
          refine nx_callVr [.int s8.1] (fun r => .int (bz r)) (fun _ => (mW Γ M0 m s8.2)) cw_8_180 cv_X8_isOn (fun r e => cM_isOn X.2.1  e) mW_m rfl rfl (Nat.le_of_ble_eq_true rfl) (Nat.le_of_ble_eq_true rfl) dX8_chain_91 rfl (fun b14 => ?_)
          refine nx_ifz_eq (t := 118) dX8_chain_94 (by decide) rfl ?_ ?_
          · refine nx_aload_n rfl dX8_chain_118 rfl ?_
            refine nx_getf fl_8_44 mW_m rfl dX8_chain_119 rfl ?_
            refine nx_iload_n rfl dX8_chain_122 rfl ?_
            refine m_iald 12 ⟨Nat.le_of_ble_eq_true rfl, Nat.le_of_ble_eq_true rfl⟩ dX8_chain_123 rfl (fun x15 => ?_)
            obtain ⟨_, _, _⟩ := s6
            obtain ⟨_, _, _⟩ := s7
            obtain ⟨_, _⟩ := s8
            exact nx_leaf rfl
          · refine nx_aload_n rfl dX8_chain_97 rfl ?_
            refine nx_getf fl_8_44 mW_m rfl dX8_chain_98 rfl ?_
            refine nx_iload_n rfl dX8_chain_101 rfl ?_
            refine m_iald 12 ⟨Nat.le_of_ble_eq_true rfl, Nat.le_of_ble_eq_true rfl⟩ dX8_chain_102 rfl (fun x16 => ?_)
            refine nx_aload_n rfl dX8_chain_103 rfl ?_
            refine nx_getf fl_8_44 mW_m rfl dX8_chain_104 rfl ?_
            refine nx_iload rfl dX8_chain_107 rfl ?_
            refine m_iald 12 ⟨Nat.le_of_ble_eq_true rfl, Nat.le_of_ble_eq_true rfl⟩ dX8_chain_109 rfl (fun x17 => ?_)
            refine nx_iconst dX8_chain_110 rfl ?_
            refine nx_iadd dX8_chain_111 rfl ?_
            refine nx_max wd_1426 wd_685 wd_206 wd_686 (Nat.le_of_ble_eq_true rfl) (Nat.le_of_ble_eq_true rfl) dX8_chain_112 rfl ?_
            refine nx_goto (q := 124) dX8_chain_115 (by decide) ?_
            obtain ⟨_, _, _⟩ := s6
            obtain ⟨_, _, _⟩ := s7
            obtain ⟨_, _⟩ := s8
            exact nx_leaf rfl
    refine m_iast 12 ⟨Nat.le_of_ble_eq_true rfl, Nat.le_of_ble_eq_true rfl⟩ dX8_chain_124 rfl (fun g19 => ?_)
    refine nx_iinc [some (.ref m), some (.int s7.1), some (.int s6.2.1), some (.int s7.2.1), some (.int (s8.1 + iz 1))] dX8_chain_125 rfl rfl (Nat.le_of_ble_eq_true rfl) rfl rfl ?_
    refine nx_goto (q := 54) dX8_chain_128 (by decide) ?_
    obtain ⟨_, _, _⟩ := s6
    obtain ⟨_, _, _⟩ := s7
    obtain ⟨_, _⟩ := s8
    exact nx_leaf rfl
set_option maxRecDepth 4000 in
theorem jM_chain_45 {Γ : nx_G} {M0 : nx_M} {m : Nat} (u : Nat) (s6 : Int32 × Int32 × mS)   (X : nx_X) (Z : nx_Z) (s7 : Int32 × Int32 × mS) : nx_J Γ X (RX8, cX8_chain, 5, (some .int), "chain", 4) Z (Sum.elim (fun s7 : Int32 × Int32 × mS => .inl (45, [some (.ref m), some (.int s7.1), some (.int s6.2.1), some (.int s7.2.1), none], [], (mW Γ M0 m s7.2.2))) (fun e22 : Int32 × mS => .inl (148, [some (.ref m), some (.int e22.1), some (.int s6.2.1), none, none], [], (mW Γ M0 m e22.2)))) (.inl (45, [some (.ref m), some (.int s7.1), some (.int s6.2.1), some (.int s7.2.1), none], [], (mW Γ M0 m s7.2.2))) (fM_chain_45 u s7) := by
  unfold fM_chain_45
  refine nx_iload_n rfl dX8_chain_45 rfl ?_
  refine nx_bipush (by decide +kernel) dX8_chain_46 rfl ?_
  refine nx_icmp_ge (t := 148) dX8_chain_48 (by decide) rfl ?_ ?_
  · refine nx_weak (ls' := [some (.ref m), some (.int s7.1), some (.int s6.2.1), none, none]) (nx_wk_s (nx_wk_s (nx_wk_s (nx_wk_n (nx_wk_n nx_wk_e))))) ?_
    obtain ⟨_, _, _⟩ := s6
    obtain ⟨_, _, _⟩ := s7
    exact nx_leaf rfl
  · refine nx_iconst dX8_chain_51 rfl ?_
    refine nx_istore [some (.ref m), some (.int s7.1), some (.int s6.2.1), some (.int s7.2.1), some (.int (iz 0))] dX8_chain_52 rfl (Nat.le_of_ble_eq_true rfl) rfl rfl ?_
    refine nx_seq (C1 := fun e20 : mS => .inl (131, [some (.ref m), some (.int s7.1), some (.int s6.2.1), some (.int s7.2.1), none], [], (mW Γ M0 m e20))) (nx_loop (C1 := fun s8 : Int32 × mS => .inl (54, [some (.ref m), some (.int s7.1), some (.int s6.2.1), some (.int s7.2.1), some (.int s8.1)], [], (mW Γ M0 m s8.2))) (fun s8 => jM_chain_54  u s6 s7 X Z s8) ((iz 0), s7.2.2)) (fun e20 => ?_)
    refine nx_iload_n rfl dX8_chain_131 rfl ?_
    refine nx_aload_n rfl dX8_chain_132 rfl ?_
    refine nx_getf fl_8_44 mW_m rfl dX8_chain_133 rfl ?_
    refine nx_iload_n rfl dX8_chain_136 rfl ?_
    refine m_iald 12 ⟨Nat.le_of_ble_eq_true rfl, Nat.le_of_ble_eq_true rfl⟩ dX8_chain_137 rfl (fun x21 => ?_)
    refine nx_max wd_1426 wd_685 wd_206 wd_686 (Nat.le_of_ble_eq_true rfl) (Nat.le_of_ble_eq_true rfl) dX8_chain_138 rfl ?_
    refine nx_istore_n [some (.ref m), some (.int (if s7.1 < x21 then x21 else s7.1)), some (.int s6.2.1), some (.int s7.2.1), none] dX8_chain_141 rfl (Nat.le_of_ble_eq_true rfl) rfl rfl ?_
    refine nx_iinc [some (.ref m), some (.int (if s7.1 < x21 then x21 else s7.1)), some (.int s6.2.1), some (.int (s7.2.1 + iz 1)), none] dX8_chain_142 rfl rfl (Nat.le_of_ble_eq_true rfl) rfl rfl ?_
    refine nx_goto (q := 45) dX8_chain_145 (by decide) ?_
    obtain ⟨_, _, _⟩ := s6
    obtain ⟨_, _, _⟩ := s7
    exact nx_leaf rfl
set_option maxRecDepth 4000 in
theorem jM_chain_37 {Γ : nx_G} {M0 : nx_M} {m : Nat} (u : Nat)   (X : nx_X) (Z : nx_Z) (s6 : Int32 × Int32 × mS) : nx_J Γ X (RX8, cX8_chain, 5, (some .int), "chain", 4) Z (Sum.elim (fun s6 : Int32 × Int32 × mS => .inl (37, [some (.ref m), some (.int s6.1), some (.int s6.2.1), none, none], [], (mW Γ M0 m s6.2.2))) (fun e23 : Int32 × mS => .inl (154, [some (.ref m), some (.int e23.1), none, none, none], [], (mW Γ M0 m e23.2)))) (.inl (37, [some (.ref m), some (.int s6.1), some (.int s6.2.1), none, none], [], (mW Γ M0 m s6.2.2))) (fM_chain_37 u s6) := by
  unfold fM_chain_37
  refine nx_iload_n rfl dX8_chain_37 rfl ?_
  refine nx_bipush (by decide +kernel) dX8_chain_38 rfl ?_
  refine nx_icmp_ge (t := 154) dX8_chain_40 (by decide) rfl ?_ ?_
  · refine nx_weak (ls' := [some (.ref m), some (.int s6.1), none, none, none]) (nx_wk_s (nx_wk_s (nx_wk_n (nx_wk_n (nx_wk_n nx_wk_e))))) ?_
    obtain ⟨_, _, _⟩ := s6
    exact nx_leaf rfl
  · refine nx_iconst dX8_chain_43 rfl ?_
    refine nx_istore_n [some (.ref m), some (.int s6.1), some (.int s6.2.1), some (.int (iz 0)), none] dX8_chain_44 rfl (Nat.le_of_ble_eq_true rfl) rfl rfl ?_
    refine nx_seq (C1 := fun e22 : Int32 × mS => .inl (148, [some (.ref m), some (.int e22.1), some (.int s6.2.1), none, none], [], (mW Γ M0 m e22.2))) (nx_loop (C1 := fun s7 : Int32 × Int32 × mS => .inl (45, [some (.ref m), some (.int s7.1), some (.int s6.2.1), some (.int s7.2.1), none], [], (mW Γ M0 m s7.2.2))) (fun s7 => jM_chain_45  u s6 X Z s7) (s6.1, (iz 0), s6.2.2)) (fun e22 => ?_)
    refine nx_iinc [some (.ref m), some (.int e22.1), some (.int (s6.2.1 + iz 1)), none, none] dX8_chain_148 rfl rfl (Nat.le_of_ble_eq_true rfl) rfl rfl ?_
    refine nx_goto (q := 37) dX8_chain_151 (by decide) ?_
    obtain ⟨_, _, _⟩ := s6
    obtain ⟨_, _⟩ := e22
    exact nx_leaf rfl
set_option maxRecDepth 4000 in
theorem jM_chain {Γ : nx_G} {M0 : nx_M} {m : Nat} (u : Nat) (g : mS)   (X : nx_X) (Z : nx_Z) : nx_J Γ X (RX8, cX8_chain, 5, (some .int), "chain", 4) Z (fun r0 : Int32 × mS => .inr (some (.int r0.1), (mW Γ M0 m r0.2))) (.inl (0, [some (.ref m), none, none, none, none], [], (mW Γ M0 m g))) (fM_chain u g) := by
  unfold fM_chain
  refine nx_iconst dX8_chain_0 rfl ?_
  refine nx_istore_n [some (.ref m), some (.int (iz 0)), none, none, none] dX8_chain_1 rfl (Nat.le_of_ble_eq_true rfl) rfl rfl ?_
  refine nx_seq (C1 := fun e5 : mS => .inl (33, [some (.ref m), none, none, none, none], [], (mW Γ M0 m e5))) (nx_loop (C1 := fun s1 : Int32 × mS => .inl (2, [some (.ref m), some (.int s1.1), none, none, none], [], (mW Γ M0 m s1.2))) (fun s1 => jM_chain_2  u X Z s1) ((iz 0), g)) (fun e5 => ?_)
  refine nx_iconst dX8_chain_33 rfl ?_
  refine nx_istore_n [some (.ref m), some (.int (iz 0)), none, none, none] dX8_chain_34 rfl (Nat.le_of_ble_eq_true rfl) rfl rfl ?_
  refine nx_iconst dX8_chain_35 rfl ?_
  refine nx_istore_n [some (.ref m), some (.int (iz 0)), some (.int (iz 0)), none, none] dX8_chain_36 rfl (Nat.le_of_ble_eq_true rfl) rfl rfl ?_
  refine nx_seq (C1 := fun e23 : Int32 × mS => .inl (154, [some (.ref m), some (.int e23.1), none, none, none], [], (mW Γ M0 m e23.2))) (nx_loop (C1 := fun s6 : Int32 × Int32 × mS => .inl (37, [some (.ref m), some (.int s6.1), some (.int s6.2.1), none, none], [], (mW Γ M0 m s6.2.2))) (fun s6 => jM_chain_37  u X Z s6) ((iz 0), (iz 0), e5)) (fun e23 => ?_)
  refine nx_iload_n rfl dX8_chain_154 rfl ?_
  exact nx_iret dX8_chain_155 rfl rfl
theorem cM_chain (l : Launch) {Γ : nx_G} {M0 : nx_M} {m : Nat} {u : Nat} {g : mS} {r : Int32 × mS}  (h : fM_chain u g = some r) : nx_Ct l Γ 4 yX8_chain cX8_chain 5 (some .int) [.ref m] (mW Γ M0 m g) (some (.int r.1), (mW Γ M0 m r.2)) :=
  nx_ct (out := fun r0 : Int32 × mS => (some (.int r0.1), (mW Γ M0 m r0.2))) [some (.ref m), none, none, none, none] pn_RX8 h (Nat.le_of_ble_eq_true rfl) rfl (fun X Z _ => jM_chain  u g X Z)
theorem dX8_all_0 : decode cX8_all 0 = .ok (.aload_n 0, 1) := by decide +kernel
theorem dX8_all_1 : decode cX8_all 1 = .ok (.invokevirtual 158, 3) := by decide +kernel
theorem dX8_all_4 : decode cX8_all 4 = .ok (.ifCond .eq 13, 3) := by decide +kernel
theorem dX8_all_7 : decode cX8_all 7 = .ok (.iload_n 1, 1) := by decide +kernel
theorem dX8_all_8 : decode cX8_all 8 = .ok (.iconst 0, 1) := by decide +kernel
theorem dX8_all_9 : decode cX8_all 9 = .ok (.bipush 13, 2) := by decide +kernel
theorem dX8_all_11 : decode cX8_all 11 = .ok (.invokestatic 61, 3) := by decide +kernel
theorem dX8_all_14 : decode cX8_all 14 = .ok (.ifCond .ne 7, 3) := by decide +kernel
theorem dX8_all_17 : decode cX8_all 17 = .ok (.ldc_w 336, 3) := by decide +kernel
theorem dX8_all_20 : decode cX8_all 20 = .ok (.ireturn, 1) := by decide +kernel
theorem dX8_all_21 : decode cX8_all 21 = .ok (.iload_n 1, 1) := by decide +kernel
theorem dX8_all_22 : decode cX8_all 22 = .ok (.tableswitch 143 0 12 #[66, 72, 78, 84, 90, 95, 100, 105, 110, 115, 120, 125, 134], 66) := by decide +kernel
theorem dX8_all_88 : decode cX8_all 88 = .ok (.aload_n 0, 1) := by decide +kernel
theorem dX8_all_89 : decode cX8_all 89 = .ok (.iconst 1, 1) := by decide +kernel
theorem dX8_all_90 : decode cX8_all 90 = .ok (.invokevirtual 211, 3) := by decide +kernel
theorem dX8_all_93 : decode cX8_all 93 = .ok (.ireturn, 1) := by decide +kernel
theorem dX8_all_94 : decode cX8_all 94 = .ok (.aload_n 0, 1) := by decide +kernel
theorem dX8_all_95 : decode cX8_all 95 = .ok (.iconst 2, 1) := by decide +kernel
theorem dX8_all_96 : decode cX8_all 96 = .ok (.invokevirtual 211, 3) := by decide +kernel
theorem dX8_all_99 : decode cX8_all 99 = .ok (.ireturn, 1) := by decide +kernel
theorem dX8_all_100 : decode cX8_all 100 = .ok (.aload_n 0, 1) := by decide +kernel
theorem dX8_all_101 : decode cX8_all 101 = .ok (.iconst 3, 1) := by decide +kernel
theorem dX8_all_102 : decode cX8_all 102 = .ok (.invokevirtual 211, 3) := by decide +kernel
theorem dX8_all_105 : decode cX8_all 105 = .ok (.ireturn, 1) := by decide +kernel
theorem dX8_all_106 : decode cX8_all 106 = .ok (.aload_n 0, 1) := by decide +kernel
theorem dX8_all_107 : decode cX8_all 107 = .ok (.iconst 4, 1) := by decide +kernel
theorem dX8_all_108 : decode cX8_all 108 = .ok (.invokevirtual 211, 3) := by decide +kernel
theorem dX8_all_111 : decode cX8_all 111 = .ok (.ireturn, 1) := by decide +kernel
theorem dX8_all_112 : decode cX8_all 112 = .ok (.aload_n 0, 1) := by decide +kernel
theorem dX8_all_113 : decode cX8_all 113 = .ok (.invokevirtual 387, 3) := by decide +kernel
theorem dX8_all_116 : decode cX8_all 116 = .ok (.ireturn, 1) := by decide +kernel
theorem dX8_all_117 : decode cX8_all 117 = .ok (.aload_n 0, 1) := by decide +kernel
theorem dX8_all_118 : decode cX8_all 118 = .ok (.invokevirtual 390, 3) := by decide +kernel
theorem dX8_all_121 : decode cX8_all 121 = .ok (.ireturn, 1) := by decide +kernel
theorem dX8_all_122 : decode cX8_all 122 = .ok (.aload_n 0, 1) := by decide +kernel
theorem dX8_all_123 : decode cX8_all 123 = .ok (.invokevirtual 393, 3) := by decide +kernel
theorem dX8_all_126 : decode cX8_all 126 = .ok (.ireturn, 1) := by decide +kernel
theorem dX8_all_127 : decode cX8_all 127 = .ok (.aload_n 0, 1) := by decide +kernel
theorem dX8_all_128 : decode cX8_all 128 = .ok (.invokevirtual 396, 3) := by decide +kernel
theorem dX8_all_131 : decode cX8_all 131 = .ok (.ireturn, 1) := by decide +kernel
theorem dX8_all_132 : decode cX8_all 132 = .ok (.aload_n 0, 1) := by decide +kernel
theorem dX8_all_133 : decode cX8_all 133 = .ok (.invokevirtual 399, 3) := by decide +kernel
theorem dX8_all_136 : decode cX8_all 136 = .ok (.ireturn, 1) := by decide +kernel
theorem dX8_all_137 : decode cX8_all 137 = .ok (.aload_n 0, 1) := by decide +kernel
theorem dX8_all_138 : decode cX8_all 138 = .ok (.invokevirtual 402, 3) := by decide +kernel
theorem dX8_all_141 : decode cX8_all 141 = .ok (.ireturn, 1) := by decide +kernel
theorem dX8_all_142 : decode cX8_all 142 = .ok (.aload_n 0, 1) := by decide +kernel
theorem dX8_all_143 : decode cX8_all 143 = .ok (.invokevirtual 405, 3) := by decide +kernel
theorem dX8_all_146 : decode cX8_all 146 = .ok (.ireturn, 1) := by decide +kernel
theorem dX8_all_147 : decode cX8_all 147 = .ok (.aload_n 0, 1) := by decide +kernel
theorem dX8_all_148 : decode cX8_all 148 = .ok (.getfield 28, 3) := by decide +kernel
theorem dX8_all_151 : decode cX8_all 151 = .ok (.sipush 606, 3) := by decide +kernel
theorem dX8_all_154 : decode cX8_all 154 = .ok (.iaload, 1) := by decide +kernel
theorem dX8_all_155 : decode cX8_all 155 = .ok (.ireturn, 1) := by decide +kernel
theorem dX8_all_156 : decode cX8_all 156 = .ok (.aload_n 0, 1) := by decide +kernel
theorem dX8_all_157 : decode cX8_all 157 = .ok (.getfield 28, 3) := by decide +kernel
theorem dX8_all_160 : decode cX8_all 160 = .ok (.sipush 607, 3) := by decide +kernel
theorem dX8_all_163 : decode cX8_all 163 = .ok (.iaload, 1) := by decide +kernel
theorem dX8_all_164 : decode cX8_all 164 = .ok (.ireturn, 1) := by decide +kernel
theorem dX8_all_165 : decode cX8_all 165 = .ok (.aload_n 0, 1) := by decide +kernel
theorem dX8_all_166 : decode cX8_all 166 = .ok (.invokevirtual 384, 3) := by decide +kernel
theorem dX8_all_169 : decode cX8_all 169 = .ok (.ireturn, 1) := by decide +kernel
def fM_all (u : Nat) (g : mS) (a1 : Int32) : Option (Int32 × mS) :=
  (fM_isStore u g).bind fun b1 =>
  if b1 = true then
    (fM_in u a1 (iz 0) (iz 13)).bind fun b2 =>
    if b2 = true then
      nx_sw a1 0 [
        ((fM_those u g (iz 1)).bind fun x4 =>
        some (x4, g)),
        ((fM_those u g (iz 2)).bind fun x5 =>
        some (x5, g)),
        ((fM_those u g (iz 3)).bind fun x6 =>
        some (x6, g)),
        ((fM_those u g (iz 4)).bind fun x7 =>
        some (x7, g)),
        ((fM_doomedOnes u g).bind fun x8 =>
        some (x8, g)),
        ((fM_unsure u g).bind fun x9 =>
        some (x9, g)),
        ((fM_oldest u g).bind fun x10 =>
        some (x10, g)),
        ((fM_fullest u g).bind fun x11 =>
        some (x11, g)),
        ((fM_worst u g).bind fun x12 =>
        some (x12, g)),
        ((fM_chain u g).bind fun p13 =>
        some (p13.1, p13.2)),
        ((fM_spare u g).bind fun x14 =>
        some (x14, g)),
        ((nx_rd (mlen 7) (g.1 7) (iz 606)).bind fun x15 =>
        some (x15, g)),
        ((nx_rd (mlen 7) (g.1 7) (iz 607)).bind fun x16 =>
        some (x16, g)) ]
        ((fM_versionsOfAll u g).bind fun x3 =>
        some (x3, g))
    else
      some (((-1000000) : Int32), g)
  else
    some (((-1000000) : Int32), g)
set_option maxRecDepth 4000 in
theorem jM_all {Γ : nx_G} {M0 : nx_M} {m : Nat} (u : Nat) (g : mS) (a1 : Int32)   (X : nx_X) (Z : nx_Z) : nx_J Γ X (RX8, cX8_all, 2, (some .int), "all", 7) Z (fun r0 : Int32 × mS => .inr (some (.int r0.1), (mW Γ M0 m r0.2))) (.inl (0, [some (.ref m), some (.int a1)], [], (mW Γ M0 m g))) (fM_all u g a1) := by
  unfold fM_all
  refine nx_aload_n rfl dX8_all_0 rfl ?_
  refine nx_callVr [] (fun r => .int (bz r)) (fun _ => (mW Γ M0 m g)) cw_8_158 cv_X8_isStore (fun r e => cM_isStore X.2.1  e) mW_m rfl rfl (Nat.le_of_ble_eq_true rfl) (Nat.le_of_ble_eq_true rfl) dX8_all_1 rfl (fun b1 => ?_)
  refine nx_ifz_eq (t := 17) dX8_all_4 (by decide) rfl ?_ ?_
  · refine nx_ldcw wd_1580 dX8_all_17 rfl ?_
    exact nx_iret dX8_all_20 rfl rfl
  · refine nx_iload_n rfl dX8_all_7 rfl ?_
    refine nx_iconst dX8_all_8 rfl ?_
    refine nx_bipush (by decide +kernel) dX8_all_9 rfl ?_
    refine nx_callSr [.int a1, .int (iz 0), .int (iz 13)] (fun r => .int (bz r)) (fun _ => (mW Γ M0 m g)) cw_8_61 wd_1243 (fun r e => cM_in X.2.1  e) rfl rfl (Nat.le_of_ble_eq_true rfl) (Nat.le_of_ble_eq_true rfl) dX8_all_11 rfl (fun b2 => ?_)
    refine nx_ifz_ne (t := 21) dX8_all_14 (by decide) rfl ?_ ?_
    · refine nx_iload_n rfl dX8_all_21 rfl ?_
      refine nx_tsw (td := 165) dX8_all_22 rfl (by decide) ?_ ?_
      · refine nx_aload_n rfl dX8_all_165 rfl ?_
        refine nx_callVr [] (fun r => .int r) (fun _ => (mW Γ M0 m g)) cw_8_384 cv_X8_versionsOfAll (fun r e => cM_versionsOfAll X.2.1  e) mW_m rfl rfl (Nat.le_of_ble_eq_true rfl) (Nat.le_of_ble_eq_true rfl) dX8_all_166 rfl (fun x3 => ?_)
        exact nx_iret dX8_all_169 rfl rfl
      refine nx_swl_c 88 (by decide) ?_ ?_
      · refine nx_aload_n rfl dX8_all_88 rfl ?_
        refine nx_iconst dX8_all_89 rfl ?_
        refine nx_callVr [.int (iz 1)] (fun r => .int r) (fun _ => (mW Γ M0 m g)) cw_8_211 cv_X8_those (fun r e => cM_those X.2.1  e) mW_m rfl rfl (Nat.le_of_ble_eq_true rfl) (Nat.le_of_ble_eq_true rfl) dX8_all_90 rfl (fun x4 => ?_)
        exact nx_iret dX8_all_93 rfl rfl
      refine nx_swl_c 94 (by decide) ?_ ?_
      · refine nx_aload_n rfl dX8_all_94 rfl ?_
        refine nx_iconst dX8_all_95 rfl ?_
        refine nx_callVr [.int (iz 2)] (fun r => .int r) (fun _ => (mW Γ M0 m g)) cw_8_211 cv_X8_those (fun r e => cM_those X.2.1  e) mW_m rfl rfl (Nat.le_of_ble_eq_true rfl) (Nat.le_of_ble_eq_true rfl) dX8_all_96 rfl (fun x5 => ?_)
        exact nx_iret dX8_all_99 rfl rfl
      refine nx_swl_c 100 (by decide) ?_ ?_
      · refine nx_aload_n rfl dX8_all_100 rfl ?_
        refine nx_iconst dX8_all_101 rfl ?_
        refine nx_callVr [.int (iz 3)] (fun r => .int r) (fun _ => (mW Γ M0 m g)) cw_8_211 cv_X8_those (fun r e => cM_those X.2.1  e) mW_m rfl rfl (Nat.le_of_ble_eq_true rfl) (Nat.le_of_ble_eq_true rfl) dX8_all_102 rfl (fun x6 => ?_)
        exact nx_iret dX8_all_105 rfl rfl
      refine nx_swl_c 106 (by decide) ?_ ?_
      · refine nx_aload_n rfl dX8_all_106 rfl ?_
        refine nx_iconst dX8_all_107 rfl ?_
        refine nx_callVr [.int (iz 4)] (fun r => .int r) (fun _ => (mW Γ M0 m g)) cw_8_211 cv_X8_those (fun r e => cM_those X.2.1  e) mW_m rfl rfl (Nat.le_of_ble_eq_true rfl) (Nat.le_of_ble_eq_true rfl) dX8_all_108 rfl (fun x7 => ?_)
        exact nx_iret dX8_all_111 rfl rfl
      refine nx_swl_c 112 (by decide) ?_ ?_
      · refine nx_aload_n rfl dX8_all_112 rfl ?_
        refine nx_callVr [] (fun r => .int r) (fun _ => (mW Γ M0 m g)) cw_8_387 cv_X8_doomedOnes (fun r e => cM_doomedOnes X.2.1  e) mW_m rfl rfl (Nat.le_of_ble_eq_true rfl) (Nat.le_of_ble_eq_true rfl) dX8_all_113 rfl (fun x8 => ?_)
        exact nx_iret dX8_all_116 rfl rfl
      refine nx_swl_c 117 (by decide) ?_ ?_
      · refine nx_aload_n rfl dX8_all_117 rfl ?_
        refine nx_callVr [] (fun r => .int r) (fun _ => (mW Γ M0 m g)) cw_8_390 cv_X8_unsure (fun r e => cM_unsure X.2.1  e) mW_m rfl rfl (Nat.le_of_ble_eq_true rfl) (Nat.le_of_ble_eq_true rfl) dX8_all_118 rfl (fun x9 => ?_)
        exact nx_iret dX8_all_121 rfl rfl
      refine nx_swl_c 122 (by decide) ?_ ?_
      · refine nx_aload_n rfl dX8_all_122 rfl ?_
        refine nx_callVr [] (fun r => .int r) (fun _ => (mW Γ M0 m g)) cw_8_393 cv_X8_oldest (fun r e => cM_oldest X.2.1  e) mW_m rfl rfl (Nat.le_of_ble_eq_true rfl) (Nat.le_of_ble_eq_true rfl) dX8_all_123 rfl (fun x10 => ?_)
        exact nx_iret dX8_all_126 rfl rfl
      refine nx_swl_c 127 (by decide) ?_ ?_
      · refine nx_aload_n rfl dX8_all_127 rfl ?_
        refine nx_callVr [] (fun r => .int r) (fun _ => (mW Γ M0 m g)) cw_8_396 cv_X8_fullest (fun r e => cM_fullest X.2.1  e) mW_m rfl rfl (Nat.le_of_ble_eq_true rfl) (Nat.le_of_ble_eq_true rfl) dX8_all_128 rfl (fun x11 => ?_)
        exact nx_iret dX8_all_131 rfl rfl
      refine nx_swl_c 132 (by decide) ?_ ?_
      · refine nx_aload_n rfl dX8_all_132 rfl ?_
        refine nx_callVr [] (fun r => .int r) (fun _ => (mW Γ M0 m g)) cw_8_399 cv_X8_worst (fun r e => cM_worst X.2.1  e) mW_m rfl rfl (Nat.le_of_ble_eq_true rfl) (Nat.le_of_ble_eq_true rfl) dX8_all_133 rfl (fun x12 => ?_)
        exact nx_iret dX8_all_136 rfl rfl
      refine nx_swl_c 137 (by decide) ?_ ?_
      · refine nx_aload_n rfl dX8_all_137 rfl ?_
        refine nx_callVr [] (fun r => .int r.1) (fun r => (mW Γ M0 m r.2)) cw_8_402 cv_X8_chain (fun r e => cM_chain X.2.1  e) mW_m rfl rfl (Nat.le_of_ble_eq_true rfl) (Nat.le_of_ble_eq_true rfl) dX8_all_138 rfl (fun p13 => ?_)
        exact nx_iret dX8_all_141 rfl rfl
      refine nx_swl_c 142 (by decide) ?_ ?_
      · refine nx_aload_n rfl dX8_all_142 rfl ?_
        refine nx_callVr [] (fun r => .int r) (fun _ => (mW Γ M0 m g)) cw_8_405 cv_X8_spare (fun r e => cM_spare X.2.1  e) mW_m rfl rfl (Nat.le_of_ble_eq_true rfl) (Nat.le_of_ble_eq_true rfl) dX8_all_143 rfl (fun x14 => ?_)
        exact nx_iret dX8_all_146 rfl rfl
      refine nx_swl_c 147 (by decide) ?_ ?_
      · refine nx_aload_n rfl dX8_all_147 rfl ?_
        refine nx_getf fl_8_28 mW_m rfl dX8_all_148 rfl ?_
        refine nx_sipush (by decide +kernel) dX8_all_151 rfl ?_
        refine m_iald 7 ⟨Nat.le_of_ble_eq_true rfl, Nat.le_of_ble_eq_true rfl⟩ dX8_all_154 rfl (fun x15 => ?_)
        exact nx_iret dX8_all_155 rfl rfl
      refine nx_swl_c 156 (by decide) ?_ ?_
      · refine nx_aload_n rfl dX8_all_156 rfl ?_
        refine nx_getf fl_8_28 mW_m rfl dX8_all_157 rfl ?_
        refine nx_sipush (by decide +kernel) dX8_all_160 rfl ?_
        refine m_iald 7 ⟨Nat.le_of_ble_eq_true rfl, Nat.le_of_ble_eq_true rfl⟩ dX8_all_163 rfl (fun x16 => ?_)
        exact nx_iret dX8_all_164 rfl rfl
      exact nx_swl_e
    · refine nx_ldcw wd_1580 dX8_all_17 rfl ?_
      exact nx_iret dX8_all_20 rfl rfl
theorem cM_all (l : Launch) {Γ : nx_G} {M0 : nx_M} {m : Nat} {u : Nat} {g : mS} {a1 : Int32} {r : Int32 × mS}  (h : fM_all u g a1 = some r) : nx_Ct l Γ 7 yX8_all cX8_all 2 (some .int) [.ref m, .int a1] (mW Γ M0 m g) (some (.int r.1), (mW Γ M0 m r.2)) :=
  nx_ct (out := fun r0 : Int32 × mS => (some (.int r0.1), (mW Γ M0 m r0.2))) [some (.ref m), some (.int a1)] pn_RX8 h (Nat.le_of_ble_eq_true rfl) rfl (fun X Z _ => jM_all  u g a1 X Z)
theorem dX8_image_0 : decode cX8_image 0 = .ok (.aload_n 0, 1) := by decide +kernel
theorem dX8_image_1 : decode cX8_image 1 = .ok (.invokevirtual 158, 3) := by decide +kernel
theorem dX8_image_4 : decode cX8_image 4 = .ok (.ifCond .ne 5, 3) := by decide +kernel
theorem dX8_image_7 : decode cX8_image 7 = .ok (.iconst (-1), 1) := by decide +kernel
theorem dX8_image_8 : decode cX8_image 8 = .ok (.ireturn, 1) := by decide +kernel
theorem dX8_image_9 : decode cX8_image 9 = .ok (.iconst 0, 1) := by decide +kernel
theorem dX8_image_10 : decode cX8_image 10 = .ok (.istore_n 1, 1) := by decide +kernel
theorem dX8_image_11 : decode cX8_image 11 = .ok (.iload_n 1, 1) := by decide +kernel
theorem dX8_image_12 : decode cX8_image 12 = .ok (.sipush 820, 3) := by decide +kernel
theorem dX8_image_15 : decode cX8_image 15 = .ok (.if_icmp .ge 21, 3) := by decide +kernel
theorem dX8_image_18 : decode cX8_image 18 = .ok (.aload_n 0, 1) := by decide +kernel
theorem dX8_image_19 : decode cX8_image 19 = .ok (.getfield 47, 3) := by decide +kernel
theorem dX8_image_22 : decode cX8_image 22 = .ok (.iload_n 1, 1) := by decide +kernel
theorem dX8_image_23 : decode cX8_image 23 = .ok (.aload_n 0, 1) := by decide +kernel
theorem dX8_image_24 : decode cX8_image 24 = .ok (.getfield 28, 3) := by decide +kernel
theorem dX8_image_27 : decode cX8_image 27 = .ok (.iload_n 1, 1) := by decide +kernel
theorem dX8_image_28 : decode cX8_image 28 = .ok (.iaload, 1) := by decide +kernel
theorem dX8_image_29 : decode cX8_image 29 = .ok (.iastore, 1) := by decide +kernel
theorem dX8_image_30 : decode cX8_image 30 = .ok (.iinc 1 1, 3) := by decide +kernel
theorem dX8_image_33 : decode cX8_image 33 = .ok (.goto (-22), 3) := by decide +kernel
theorem dX8_image_36 : decode cX8_image 36 = .ok (.aload_n 0, 1) := by decide +kernel
theorem dX8_image_37 : decode cX8_image 37 = .ok (.iconst 1, 1) := by decide +kernel
theorem dX8_image_38 : decode cX8_image 38 = .ok (.putfield 148, 3) := by decide +kernel
theorem dX8_image_41 : decode cX8_image 41 = .ok (.aload_n 0, 1) := by decide +kernel
theorem dX8_image_42 : decode cX8_image 42 = .ok (.getfield 28, 3) := by decide +kernel
theorem dX8_image_45 : decode cX8_image 45 = .ok (.sipush 606, 3) := by decide +kernel
theorem dX8_image_48 : decode cX8_image 48 = .ok (.iaload, 1) := by decide +kernel
theorem dX8_image_49 : decode cX8_image 49 = .ok (.ireturn, 1) := by decide +kernel
def fM_image_11  (s2 : Int32 × mS) : Option ((Int32 × mS) ⊕ (mS)) :=
  if (iz 820) ≤ s2.1 then
    some (.inr s2.2)
  else
    (nx_rd (mlen 7) (s2.2.1 7) s2.1).bind fun x3 =>
    (mWr s2.2 13 s2.1 x3).bind fun g4 =>
    some (.inl ((s2.1 + iz 1), g4))
def fM_image (u : Nat) (g : mS) : Option (Int32 × mS) :=
  (fM_isStore u g).bind fun b1 =>
  if b1 = true then
    (nx_iter u (fM_image_11) ((iz 0), g)).bind fun e5 =>
    (some (mFs e5 26 (iz 1))).bind fun g6 =>
    (nx_rd (mlen 7) (g6.1 7) (iz 606)).bind fun x7 =>
    some (x7, g6)
  else
    some ((iz (-1)), g)
set_option maxRecDepth 4000 in
theorem jM_image_11 {Γ : nx_G} {M0 : nx_M} {m : Nat}    (X : nx_X) (Z : nx_Z) (s2 : Int32 × mS) : nx_J Γ X (RX8, cX8_image, 2, (some .int), "image", 2) Z (Sum.elim (fun s2 : Int32 × mS => .inl (11, [some (.ref m), some (.int s2.1)], [], (mW Γ M0 m s2.2))) (fun e5 : mS => .inl (36, [some (.ref m), none], [], (mW Γ M0 m e5)))) (.inl (11, [some (.ref m), some (.int s2.1)], [], (mW Γ M0 m s2.2))) (fM_image_11 s2) := by
  unfold fM_image_11
  refine nx_iload_n rfl dX8_image_11 rfl ?_
  refine nx_sipush (by decide +kernel) dX8_image_12 rfl ?_
  refine nx_icmp_ge (t := 36) dX8_image_15 (by decide) rfl ?_ ?_
  · refine nx_weak (ls' := [some (.ref m), none]) (nx_wk_s (nx_wk_n nx_wk_e)) ?_
    obtain ⟨_, _⟩ := s2
    exact nx_leaf rfl
  · refine nx_aload_n rfl dX8_image_18 rfl ?_
    refine nx_getf fl_8_47 mW_m rfl dX8_image_19 rfl ?_
    refine nx_iload_n rfl dX8_image_22 rfl ?_
    refine nx_aload_n rfl dX8_image_23 rfl ?_
    refine nx_getf fl_8_28 mW_m rfl dX8_image_24 rfl ?_
    refine nx_iload_n rfl dX8_image_27 rfl ?_
    refine m_iald 7 ⟨Nat.le_of_ble_eq_true rfl, Nat.le_of_ble_eq_true rfl⟩ dX8_image_28 rfl (fun x3 => ?_)
    refine m_iast 13 ⟨Nat.le_of_ble_eq_true rfl, Nat.le_of_ble_eq_true rfl⟩ dX8_image_29 rfl (fun g4 => ?_)
    refine nx_iinc [some (.ref m), some (.int (s2.1 + iz 1))] dX8_image_30 rfl rfl (Nat.le_of_ble_eq_true rfl) rfl rfl ?_
    refine nx_goto (q := 11) dX8_image_33 (by decide) ?_
    obtain ⟨_, _⟩ := s2
    exact nx_leaf rfl
set_option maxRecDepth 4000 in
theorem jM_image {Γ : nx_G} {M0 : nx_M} {m : Nat} (u : Nat) (g : mS)   (X : nx_X) (Z : nx_Z) : nx_J Γ X (RX8, cX8_image, 2, (some .int), "image", 2) Z (fun r0 : Int32 × mS => .inr (some (.int r0.1), (mW Γ M0 m r0.2))) (.inl (0, [some (.ref m), none], [], (mW Γ M0 m g))) (fM_image u g) := by
  unfold fM_image
  refine nx_aload_n rfl dX8_image_0 rfl ?_
  refine nx_callVr [] (fun r => .int (bz r)) (fun _ => (mW Γ M0 m g)) cw_8_158 cv_X8_isStore (fun r e => cM_isStore X.2.1  e) mW_m rfl rfl (Nat.le_of_ble_eq_true rfl) (Nat.le_of_ble_eq_true rfl) dX8_image_1 rfl (fun b1 => ?_)
  refine nx_ifz_ne (t := 9) dX8_image_4 (by decide) rfl ?_ ?_
  · refine nx_iconst dX8_image_9 rfl ?_
    refine nx_istore_n [some (.ref m), some (.int (iz 0))] dX8_image_10 rfl (Nat.le_of_ble_eq_true rfl) rfl rfl ?_
    refine nx_seq (C1 := fun e5 : mS => .inl (36, [some (.ref m), none], [], (mW Γ M0 m e5))) (nx_loop (C1 := fun s2 : Int32 × mS => .inl (11, [some (.ref m), some (.int s2.1)], [], (mW Γ M0 m s2.2))) (fun s2 => jM_image_11  X Z s2) ((iz 0), g)) (fun e5 => ?_)
    refine nx_aload_n rfl dX8_image_36 rfl ?_
    refine nx_iconst dX8_image_37 rfl ?_
    refine m_put fl_8_148 ft_8_26 (by decide +kernel) (by decide +kernel) (Nat.le_of_ble_eq_true rfl) rfl dX8_image_38 rfl (fun g6 => ?_)
    refine nx_aload_n rfl dX8_image_41 rfl ?_
    refine nx_getf fl_8_28 mW_m rfl dX8_image_42 rfl ?_
    refine nx_sipush (by decide +kernel) dX8_image_45 rfl ?_
    refine m_iald 7 ⟨Nat.le_of_ble_eq_true rfl, Nat.le_of_ble_eq_true rfl⟩ dX8_image_48 rfl (fun x7 => ?_)
    exact nx_iret dX8_image_49 rfl rfl
  · refine nx_iconst dX8_image_7 rfl ?_
    exact nx_iret dX8_image_8 rfl rfl
theorem cM_image (l : Launch) {Γ : nx_G} {M0 : nx_M} {m : Nat} {u : Nat} {g : mS} {r : Int32 × mS}  (h : fM_image u g = some r) : nx_Ct l Γ 2 yX8_image cX8_image 2 (some .int) [.ref m] (mW Γ M0 m g) (some (.int r.1), (mW Γ M0 m r.2)) :=
  nx_ct (out := fun r0 : Int32 × mS => (some (.int r0.1), (mW Γ M0 m r0.2))) [some (.ref m), none] pn_RX8 h (Nat.le_of_ble_eq_true rfl) rfl (fun X Z _ => jM_image  u g X Z)
theorem dX8_back_0 : decode cX8_back 0 = .ok (.aload_n 0, 1) := by decide +kernel
theorem dX8_back_1 : decode cX8_back 1 = .ok (.getfield 148, 3) := by decide +kernel
theorem dX8_back_4 : decode cX8_back 4 = .ok (.ifCond .ne 5, 3) := by decide +kernel
theorem dX8_back_7 : decode cX8_back 7 = .ok (.iconst (-1), 1) := by decide +kernel
theorem dX8_back_8 : decode cX8_back 8 = .ok (.ireturn, 1) := by decide +kernel
theorem dX8_back_9 : decode cX8_back 9 = .ok (.iconst 0, 1) := by decide +kernel
theorem dX8_back_10 : decode cX8_back 10 = .ok (.istore_n 1, 1) := by decide +kernel
theorem dX8_back_11 : decode cX8_back 11 = .ok (.iload_n 1, 1) := by decide +kernel
theorem dX8_back_12 : decode cX8_back 12 = .ok (.sipush 820, 3) := by decide +kernel
theorem dX8_back_15 : decode cX8_back 15 = .ok (.if_icmp .ge 21, 3) := by decide +kernel
theorem dX8_back_18 : decode cX8_back 18 = .ok (.aload_n 0, 1) := by decide +kernel
theorem dX8_back_19 : decode cX8_back 19 = .ok (.getfield 28, 3) := by decide +kernel
theorem dX8_back_22 : decode cX8_back 22 = .ok (.iload_n 1, 1) := by decide +kernel
theorem dX8_back_23 : decode cX8_back 23 = .ok (.aload_n 0, 1) := by decide +kernel
theorem dX8_back_24 : decode cX8_back 24 = .ok (.getfield 47, 3) := by decide +kernel
theorem dX8_back_27 : decode cX8_back 27 = .ok (.iload_n 1, 1) := by decide +kernel
theorem dX8_back_28 : decode cX8_back 28 = .ok (.iaload, 1) := by decide +kernel
theorem dX8_back_29 : decode cX8_back 29 = .ok (.iastore, 1) := by decide +kernel
theorem dX8_back_30 : decode cX8_back 30 = .ok (.iinc 1 1, 3) := by decide +kernel
theorem dX8_back_33 : decode cX8_back 33 = .ok (.goto (-22), 3) := by decide +kernel
theorem dX8_back_36 : decode cX8_back 36 = .ok (.aload_n 0, 1) := by decide +kernel
theorem dX8_back_37 : decode cX8_back 37 = .ok (.iconst 0, 1) := by decide +kernel
theorem dX8_back_38 : decode cX8_back 38 = .ok (.putfield 145, 3) := by decide +kernel
theorem dX8_back_41 : decode cX8_back 41 = .ok (.aload_n 0, 1) := by decide +kernel
theorem dX8_back_42 : decode cX8_back 42 = .ok (.getfield 28, 3) := by decide +kernel
theorem dX8_back_45 : decode cX8_back 45 = .ok (.sipush 606, 3) := by decide +kernel
theorem dX8_back_48 : decode cX8_back 48 = .ok (.iaload, 1) := by decide +kernel
theorem dX8_back_49 : decode cX8_back 49 = .ok (.ireturn, 1) := by decide +kernel
def fM_back_11  (s1 : Int32 × mS) : Option ((Int32 × mS) ⊕ (mS)) :=
  if (iz 820) ≤ s1.1 then
    some (.inr s1.2)
  else
    (nx_rd (mlen 13) (s1.2.1 13) s1.1).bind fun x2 =>
    (mWr s1.2 7 s1.1 x2).bind fun g3 =>
    some (.inl ((s1.1 + iz 1), g3))
def fM_back (u : Nat) (g : mS) : Option (Int32 × mS) :=
  if (g.1 0 26) = iz 0 then
    some ((iz (-1)), g)
  else
    (nx_iter u (fM_back_11) ((iz 0), g)).bind fun e4 =>
    (some (mFs e4 19 (iz 0))).bind fun g5 =>
    (nx_rd (mlen 7) (g5.1 7) (iz 606)).bind fun x6 =>
    some (x6, g5)
set_option maxRecDepth 4000 in
theorem jM_back_11 {Γ : nx_G} {M0 : nx_M} {m : Nat}    (X : nx_X) (Z : nx_Z) (s1 : Int32 × mS) : nx_J Γ X (RX8, cX8_back, 2, (some .int), "back", 1) Z (Sum.elim (fun s1 : Int32 × mS => .inl (11, [some (.ref m), some (.int s1.1)], [], (mW Γ M0 m s1.2))) (fun e4 : mS => .inl (36, [some (.ref m), none], [], (mW Γ M0 m e4)))) (.inl (11, [some (.ref m), some (.int s1.1)], [], (mW Γ M0 m s1.2))) (fM_back_11 s1) := by
  unfold fM_back_11
  refine nx_iload_n rfl dX8_back_11 rfl ?_
  refine nx_sipush (by decide +kernel) dX8_back_12 rfl ?_
  refine nx_icmp_ge (t := 36) dX8_back_15 (by decide) rfl ?_ ?_
  · refine nx_weak (ls' := [some (.ref m), none]) (nx_wk_s (nx_wk_n nx_wk_e)) ?_
    obtain ⟨_, _⟩ := s1
    exact nx_leaf rfl
  · refine nx_aload_n rfl dX8_back_18 rfl ?_
    refine nx_getf fl_8_28 mW_m rfl dX8_back_19 rfl ?_
    refine nx_iload_n rfl dX8_back_22 rfl ?_
    refine nx_aload_n rfl dX8_back_23 rfl ?_
    refine nx_getf fl_8_47 mW_m rfl dX8_back_24 rfl ?_
    refine nx_iload_n rfl dX8_back_27 rfl ?_
    refine m_iald 13 ⟨Nat.le_of_ble_eq_true rfl, Nat.le_of_ble_eq_true rfl⟩ dX8_back_28 rfl (fun x2 => ?_)
    refine m_iast 7 ⟨Nat.le_of_ble_eq_true rfl, Nat.le_of_ble_eq_true rfl⟩ dX8_back_29 rfl (fun g3 => ?_)
    refine nx_iinc [some (.ref m), some (.int (s1.1 + iz 1))] dX8_back_30 rfl rfl (Nat.le_of_ble_eq_true rfl) rfl rfl ?_
    refine nx_goto (q := 11) dX8_back_33 (by decide) ?_
    obtain ⟨_, _⟩ := s1
    exact nx_leaf rfl
set_option maxRecDepth 4000 in
theorem jM_back {Γ : nx_G} {M0 : nx_M} {m : Nat} (u : Nat) (g : mS)   (X : nx_X) (Z : nx_Z) : nx_J Γ X (RX8, cX8_back, 2, (some .int), "back", 1) Z (fun r0 : Int32 × mS => .inr (some (.int r0.1), (mW Γ M0 m r0.2))) (.inl (0, [some (.ref m), none], [], (mW Γ M0 m g))) (fM_back u g) := by
  unfold fM_back
  refine nx_aload_n rfl dX8_back_0 rfl ?_
  refine nx_getf fl_8_148 mW_m rfl dX8_back_1 rfl ?_
  refine nx_if_ne (t := 9) dX8_back_4 (by decide) rfl ?_ ?_
  · refine nx_iconst dX8_back_9 rfl ?_
    refine nx_istore_n [some (.ref m), some (.int (iz 0))] dX8_back_10 rfl (Nat.le_of_ble_eq_true rfl) rfl rfl ?_
    refine nx_seq (C1 := fun e4 : mS => .inl (36, [some (.ref m), none], [], (mW Γ M0 m e4))) (nx_loop (C1 := fun s1 : Int32 × mS => .inl (11, [some (.ref m), some (.int s1.1)], [], (mW Γ M0 m s1.2))) (fun s1 => jM_back_11  X Z s1) ((iz 0), g)) (fun e4 => ?_)
    refine nx_aload_n rfl dX8_back_36 rfl ?_
    refine nx_iconst dX8_back_37 rfl ?_
    refine m_put fl_8_145 ft_8_19 rfl rfl (Nat.le_of_ble_eq_true rfl) rfl dX8_back_38 rfl (fun g5 => ?_)
    refine nx_aload_n rfl dX8_back_41 rfl ?_
    refine nx_getf fl_8_28 mW_m rfl dX8_back_42 rfl ?_
    refine nx_sipush (by decide +kernel) dX8_back_45 rfl ?_
    refine m_iald 7 ⟨Nat.le_of_ble_eq_true rfl, Nat.le_of_ble_eq_true rfl⟩ dX8_back_48 rfl (fun x6 => ?_)
    exact nx_iret dX8_back_49 rfl rfl
  · refine nx_iconst dX8_back_7 rfl ?_
    exact nx_iret dX8_back_8 rfl rfl
theorem cM_back (l : Launch) {Γ : nx_G} {M0 : nx_M} {m : Nat} {u : Nat} {g : mS} {r : Int32 × mS}  (h : fM_back u g = some r) : nx_Ct l Γ 1 yX8_back cX8_back 2 (some .int) [.ref m] (mW Γ M0 m g) (some (.int r.1), (mW Γ M0 m r.2)) :=
  nx_ct (out := fun r0 : Int32 × mS => (some (.int r0.1), (mW Γ M0 m r0.2))) [some (.ref m), none] pn_RX8 h (Nat.le_of_ble_eq_true rfl) rfl (fun X Z _ => jM_back  u g X Z)
theorem dX8_count_0 : decode cX8_count 0 = .ok (.iload_n 1, 1) := by decide +kernel
theorem dX8_count_1 : decode cX8_count 1 = .ok (.tableswitch 77 0 5 #[39, 44, 49, 54, 63, 72], 39) := by decide +kernel
theorem dX8_count_40 : decode cX8_count 40 = .ok (.aload_n 0, 1) := by decide +kernel
theorem dX8_count_41 : decode cX8_count 41 = .ok (.getfield 142, 3) := by decide +kernel
theorem dX8_count_44 : decode cX8_count 44 = .ok (.ireturn, 1) := by decide +kernel
theorem dX8_count_45 : decode cX8_count 45 = .ok (.aload_n 0, 1) := by decide +kernel
theorem dX8_count_46 : decode cX8_count 46 = .ok (.getfield 155, 3) := by decide +kernel
theorem dX8_count_49 : decode cX8_count 49 = .ok (.ireturn, 1) := by decide +kernel
theorem dX8_count_50 : decode cX8_count 50 = .ok (.aload_n 0, 1) := by decide +kernel
theorem dX8_count_51 : decode cX8_count 51 = .ok (.getfield 58, 3) := by decide +kernel
theorem dX8_count_54 : decode cX8_count 54 = .ok (.ireturn, 1) := by decide +kernel
theorem dX8_count_55 : decode cX8_count 55 = .ok (.aload_n 0, 1) := by decide +kernel
theorem dX8_count_56 : decode cX8_count 56 = .ok (.getfield 28, 3) := by decide +kernel
theorem dX8_count_59 : decode cX8_count 59 = .ok (.sipush 608, 3) := by decide +kernel
theorem dX8_count_62 : decode cX8_count 62 = .ok (.iaload, 1) := by decide +kernel
theorem dX8_count_63 : decode cX8_count 63 = .ok (.ireturn, 1) := by decide +kernel
theorem dX8_count_64 : decode cX8_count 64 = .ok (.aload_n 0, 1) := by decide +kernel
theorem dX8_count_65 : decode cX8_count 65 = .ok (.getfield 28, 3) := by decide +kernel
theorem dX8_count_68 : decode cX8_count 68 = .ok (.sipush 639, 3) := by decide +kernel
theorem dX8_count_71 : decode cX8_count 71 = .ok (.iaload, 1) := by decide +kernel
theorem dX8_count_72 : decode cX8_count 72 = .ok (.ireturn, 1) := by decide +kernel
theorem dX8_count_73 : decode cX8_count 73 = .ok (.aload_n 0, 1) := by decide +kernel
theorem dX8_count_74 : decode cX8_count 74 = .ok (.getfield 145, 3) := by decide +kernel
theorem dX8_count_77 : decode cX8_count 77 = .ok (.ireturn, 1) := by decide +kernel
theorem dX8_count_78 : decode cX8_count 78 = .ok (.ldc_w 336, 3) := by decide +kernel
theorem dX8_count_81 : decode cX8_count 81 = .ok (.ireturn, 1) := by decide +kernel
def fM_count (u : Nat) (g : mS) (a1 : Int32) : Option (Int32) :=
  nx_sw a1 0 [
    (some (g.1 0 9)),
    (some (g.1 0 12)),
    (some (g.1 0 2)),
    ((nx_rd (mlen 7) (g.1 7) (iz 608)).bind fun x1 =>
    some x1),
    ((nx_rd (mlen 7) (g.1 7) (iz 639)).bind fun x2 =>
    some x2),
    (some (g.1 0 19)) ]
    (some ((-1000000) : Int32))
set_option maxRecDepth 4000 in
theorem jM_count {Γ : nx_G} {M0 : nx_M} {m : Nat} (u : Nat) (g : mS) (a1 : Int32)   (X : nx_X) (Z : nx_Z) : nx_J Γ X (RX8, cX8_count, 2, (some .int), "count", 1) Z (fun r0 : Int32 => .inr (some (.int r0), (mW Γ M0 m g))) (.inl (0, [some (.ref m), some (.int a1)], [], (mW Γ M0 m g))) (fM_count u g a1) := by
  unfold fM_count
  refine nx_iload_n rfl dX8_count_0 rfl ?_
  refine nx_tsw (td := 78) dX8_count_1 rfl (by decide) ?_ ?_
  · refine nx_ldcw wd_1580 dX8_count_78 rfl ?_
    exact nx_iret dX8_count_81 rfl rfl
  refine nx_swl_c 40 (by decide) ?_ ?_
  · refine nx_aload_n rfl dX8_count_40 rfl ?_
    refine nx_getf fl_8_142 mW_m rfl dX8_count_41 rfl ?_
    exact nx_iret dX8_count_44 rfl rfl
  refine nx_swl_c 45 (by decide) ?_ ?_
  · refine nx_aload_n rfl dX8_count_45 rfl ?_
    refine nx_getf fl_8_155 mW_m rfl dX8_count_46 rfl ?_
    exact nx_iret dX8_count_49 rfl rfl
  refine nx_swl_c 50 (by decide) ?_ ?_
  · refine nx_aload_n rfl dX8_count_50 rfl ?_
    refine nx_getf fl_8_58 mW_m rfl dX8_count_51 rfl ?_
    exact nx_iret dX8_count_54 rfl rfl
  refine nx_swl_c 55 (by decide) ?_ ?_
  · refine nx_aload_n rfl dX8_count_55 rfl ?_
    refine nx_getf fl_8_28 mW_m rfl dX8_count_56 rfl ?_
    refine nx_sipush (by decide +kernel) dX8_count_59 rfl ?_
    refine m_iald 7 ⟨Nat.le_of_ble_eq_true rfl, Nat.le_of_ble_eq_true rfl⟩ dX8_count_62 rfl (fun x1 => ?_)
    exact nx_iret dX8_count_63 rfl rfl
  refine nx_swl_c 64 (by decide) ?_ ?_
  · refine nx_aload_n rfl dX8_count_64 rfl ?_
    refine nx_getf fl_8_28 mW_m rfl dX8_count_65 rfl ?_
    refine nx_sipush (by decide +kernel) dX8_count_68 rfl ?_
    refine m_iald 7 ⟨Nat.le_of_ble_eq_true rfl, Nat.le_of_ble_eq_true rfl⟩ dX8_count_71 rfl (fun x2 => ?_)
    exact nx_iret dX8_count_72 rfl rfl
  refine nx_swl_c 73 (by decide) ?_ ?_
  · refine nx_aload_n rfl dX8_count_73 rfl ?_
    refine nx_getf fl_8_145 mW_m rfl dX8_count_74 rfl ?_
    exact nx_iret dX8_count_77 rfl rfl
  exact nx_swl_e
theorem cM_count (l : Launch) {Γ : nx_G} {M0 : nx_M} {m : Nat} {u : Nat} {g : mS} {a1 : Int32} {r : Int32}  (h : fM_count u g a1 = some r) : nx_Ct l Γ 1 yX8_count cX8_count 2 (some .int) [.ref m, .int a1] (mW Γ M0 m g) (some (.int r), (mW Γ M0 m g)) :=
  nx_ct (out := fun r0 : Int32 => (some (.int r0), (mW Γ M0 m g))) [some (.ref m), some (.int a1)] pn_RX8 h (Nat.le_of_ble_eq_true rfl) rfl (fun X Z _ => jM_count  u g a1 X Z)
