theorem dX3_part_0 : decode cX3_part 0 = .ok (.iload_n 1, 1) := by decide +kernel
theorem dX3_part_1 : decode cX3_part 1 = .ok (.bipush 16, 2) := by decide +kernel
theorem dX3_part_3 : decode cX3_part 3 = .ok (.invokestatic 15, 3) := by decide +kernel
theorem dX3_part_6 : decode cX3_part 6 = .ok (.ifCond .eq 24, 3) := by decide +kernel
theorem dX3_part_9 : decode cX3_part 9 = .ok (.iload_n 2, 1) := by decide +kernel
theorem dX3_part_10 : decode cX3_part 10 = .ok (.iconst 4, 1) := by decide +kernel
theorem dX3_part_11 : decode cX3_part 11 = .ok (.invokestatic 15, 3) := by decide +kernel
theorem dX3_part_14 : decode cX3_part 14 = .ok (.ifCond .eq 16, 3) := by decide +kernel
theorem dX3_part_17 : decode cX3_part 17 = .ok (.aload_n 0, 1) := by decide +kernel
theorem dX3_part_18 : decode cX3_part 18 = .ok (.getfield 11, 3) := by decide +kernel
theorem dX3_part_21 : decode cX3_part 21 = .ok (.iload_n 1, 1) := by decide +kernel
theorem dX3_part_22 : decode cX3_part 22 = .ok (.iconst 4, 1) := by decide +kernel
theorem dX3_part_23 : decode cX3_part 23 = .ok (.imul, 1) := by decide +kernel
theorem dX3_part_24 : decode cX3_part 24 = .ok (.iload_n 2, 1) := by decide +kernel
theorem dX3_part_25 : decode cX3_part 25 = .ok (.iadd, 1) := by decide +kernel
theorem dX3_part_26 : decode cX3_part 26 = .ok (.iaload, 1) := by decide +kernel
theorem dX3_part_27 : decode cX3_part 27 = .ok (.goto 4, 3) := by decide +kernel
theorem dX3_part_30 : decode cX3_part 30 = .ok (.iconst (-1), 1) := by decide +kernel
theorem dX3_part_31 : decode cX3_part 31 = .ok (.ireturn, 1) := by decide +kernel
def fS_part (u : Nat) (f : (Nat → Int32)) (a1 : Int32) (a2 : Int32) : Option (Int32) :=
  (fL_within u a1 (iz 16)).bind fun b1 =>
  if b1 = true then
    (fL_within u a2 (iz 4)).bind fun b2 =>
    if b2 = true then
      (nx_rd 64 f ((a1 * (iz 4)) + a2)).bind fun x3 =>
      some x3
    else
      some (iz (-1))
  else
    some (iz (-1))
set_option maxRecDepth 4000 in
theorem jS_part {Γ : nx_G} {M0 : nx_M} {w c : Nat} {ln : Value} (hw : M0.1 w = some (.inr (3, [.ref c, ln]))) (hc : w ≠ c) (u : Nat) (f : (Nat → Int32)) (a1 : Int32) (a2 : Int32)   (X : nx_X) (Z : nx_Z) : nx_J Γ X (RX3, cX3_part, 3, (some .int), "part", 2) Z (fun r0 : Int32 => .inr (some (.int r0), (nx_put M0 c (.inl (Γ.2.2.2.1 0, 64, .inl f))))) (.inl (0, [some (.ref w), some (.int a1), some (.int a2)], [], (nx_put M0 c (.inl (Γ.2.2.2.1 0, 64, .inl f))))) (fS_part u f a1 a2) := by
  unfold fS_part
  refine nx_iload_n rfl dX3_part_0 rfl ?_
  refine nx_bipush (by decide +kernel) dX3_part_1 rfl ?_
  refine nx_callSr [.int a1, .int (iz 16)] (fun r => .int (bz r)) (fun _ => (nx_put M0 c (.inl (Γ.2.2.2.1 0, 64, .inl f)))) cw_3_15 wd_442 (fun r e => cL_within X.2.1  e) rfl rfl (Nat.le_of_ble_eq_true rfl) (Nat.le_of_ble_eq_true rfl) dX3_part_3 rfl (fun b1 => ?_)
  refine nx_ifz_eq (t := 30) dX3_part_6 (by decide) rfl ?_ ?_
  · refine nx_iconst dX3_part_30 rfl ?_
    exact nx_iret dX3_part_31 rfl rfl
  · refine nx_iload_n rfl dX3_part_9 rfl ?_
    refine nx_iconst dX3_part_10 rfl ?_
    refine nx_callSr [.int a2, .int (iz 4)] (fun r => .int (bz r)) (fun _ => (nx_put M0 c (.inl (Γ.2.2.2.1 0, 64, .inl f)))) cw_3_15 wd_442 (fun r e => cL_within X.2.1  e) rfl rfl (Nat.le_of_ble_eq_true rfl) (Nat.le_of_ble_eq_true rfl) dX3_part_11 rfl (fun b2 => ?_)
    refine nx_ifz_eq (t := 30) dX3_part_14 (by decide) rfl ?_ ?_
    · refine nx_iconst dX3_part_30 rfl ?_
      exact nx_iret dX3_part_31 rfl rfl
    · refine nx_aload_n rfl dX3_part_17 rfl ?_
      refine nx_getf fl_3_11 ((nx_put_ne hc).trans hw) rfl dX3_part_18 rfl ?_
      refine nx_iload_n rfl dX3_part_21 rfl ?_
      refine nx_iconst dX3_part_22 rfl ?_
      refine nx_imul dX3_part_23 rfl ?_
      refine nx_iload_n rfl dX3_part_24 rfl ?_
      refine nx_iadd dX3_part_25 rfl ?_
      refine nx_iald nx_put_self dX3_part_26 rfl (fun x3 => ?_)
      refine nx_goto (q := 31) dX3_part_27 (by decide) ?_
      exact nx_iret dX3_part_31 rfl rfl
theorem cS_part (l : Launch) {Γ : nx_G} {M0 : nx_M} {w c : Nat} {ln : Value} (hw : M0.1 w = some (.inr (3, [.ref c, ln]))) (hc : w ≠ c) {u : Nat} {f : (Nat → Int32)} {a1 : Int32} {a2 : Int32} {r : Int32}  (h : fS_part u f a1 a2 = some r) : nx_Ct l Γ 2 yX3_part cX3_part 3 (some .int) [.ref w, .int a1, .int a2] (nx_put M0 c (.inl (Γ.2.2.2.1 0, 64, .inl f))) (some (.int r), (nx_put M0 c (.inl (Γ.2.2.2.1 0, 64, .inl f)))) :=
  nx_ct (out := fun r0 : Int32 => (some (.int r0), (nx_put M0 c (.inl (Γ.2.2.2.1 0, 64, .inl f))))) [some (.ref w), some (.int a1), some (.int a2)] pn_RX3 h (Nat.le_of_ble_eq_true rfl) rfl (fun X Z _ => jS_part hw hc u f a1 a2 X Z)
theorem dX5_rewind_0 : decode cX5_rewind 0 = .ok (.aload_n 0, 1) := by decide +kernel
theorem dX5_rewind_1 : decode cX5_rewind 1 = .ok (.iconst 0, 1) := by decide +kernel
theorem dX5_rewind_2 : decode cX5_rewind 2 = .ok (.putfield 19, 3) := by decide +kernel
theorem dX5_rewind_5 : decode cX5_rewind 5 = .ok (.return_, 1) := by decide +kernel
def fT_rewind (u : Nat) (g : pS) : Option (pS) :=
  (some (tFs g 1 (iz 0))).bind fun g1 =>
  some g1
set_option maxRecDepth 4000 in
theorem jT_rewind {Γ : nx_G} {M0 : nx_M} {t p : Nat} (hp : t + 4 < p) (u : Nat) (g : pS)   (X : nx_X) (Z : nx_Z) : nx_J Γ X (RX5, cX5_rewind, 1, none, "rewind", 1) Z (fun r0 : pS => .inr (none, (tW Γ M0 t p r0))) (.inl (0, [some (.ref t)], [], (tW Γ M0 t p g))) (fT_rewind u g) := by
  unfold fT_rewind
  refine nx_aload_n rfl dX5_rewind_0 rfl ?_
  refine nx_iconst dX5_rewind_1 rfl ?_
  refine t_put (k := 1) (Or.inl fl_5_19) ft_5_2 tW_t rfl rfl (Nat.le_of_ble_eq_true rfl) (tW_fld hp t _ (Or.inl ⟨by decide, rfl, rfl⟩)) dX5_rewind_2 rfl (fun g1 => ?_)
  exact nx_vret dX5_rewind_5 rfl rfl
theorem cT_rewind (l : Launch) {Γ : nx_G} {M0 : nx_M} {t p : Nat} (hp : t + 4 < p) {u : Nat} {g : pS} {r : pS}  (h : fT_rewind u g = some r) : nx_Ct l Γ 1 yX5_rewind cX5_rewind 1 none [.ref t] (tW Γ M0 t p g) (none, (tW Γ M0 t p r)) :=
  nx_ct (out := fun r0 : pS => (none, (tW Γ M0 t p r0))) [some (.ref t)] pn_RX5 h (Nat.le_of_ble_eq_true rfl) rfl (fun X Z _ => jT_rewind hp u g X Z)
theorem dX5_signHere_0 : decode cX5_signHere 0 = .ok (.aload_n 0, 1) := by decide +kernel
theorem dX5_signHere_1 : decode cX5_signHere 1 = .ok (.getfield 19, 3) := by decide +kernel
theorem dX5_signHere_4 : decode cX5_signHere 4 = .ok (.aload_n 0, 1) := by decide +kernel
theorem dX5_signHere_5 : decode cX5_signHere 5 = .ok (.getfield 15, 3) := by decide +kernel
theorem dX5_signHere_8 : decode cX5_signHere 8 = .ok (.if_icmp .ge 25, 3) := by decide +kernel
theorem dX5_signHere_11 : decode cX5_signHere 11 = .ok (.aload_n 0, 1) := by decide +kernel
theorem dX5_signHere_12 : decode cX5_signHere 12 = .ok (.getfield 19, 3) := by decide +kernel
theorem dX5_signHere_15 : decode cX5_signHere 15 = .ok (.sipush 240, 3) := by decide +kernel
theorem dX5_signHere_18 : decode cX5_signHere 18 = .ok (.if_icmp .ge 15, 3) := by decide +kernel
theorem dX5_signHere_21 : decode cX5_signHere 21 = .ok (.aload_n 0, 1) := by decide +kernel
theorem dX5_signHere_22 : decode cX5_signHere 22 = .ok (.getfield 11, 3) := by decide +kernel
theorem dX5_signHere_25 : decode cX5_signHere 25 = .ok (.aload_n 0, 1) := by decide +kernel
theorem dX5_signHere_26 : decode cX5_signHere 26 = .ok (.getfield 19, 3) := by decide +kernel
theorem dX5_signHere_29 : decode cX5_signHere 29 = .ok (.iaload, 1) := by decide +kernel
theorem dX5_signHere_30 : decode cX5_signHere 30 = .ok (.goto 4, 3) := by decide +kernel
theorem dX5_signHere_33 : decode cX5_signHere 33 = .ok (.iconst (-1), 1) := by decide +kernel
theorem dX5_signHere_34 : decode cX5_signHere 34 = .ok (.ireturn, 1) := by decide +kernel
def fT_signHere (u : Nat) (g : pS) : Option (Int32) :=
  if (g 0 0) ≤ (g 0 1) then
    some (iz (-1))
  else
    if (iz 240) ≤ (g 0 1) then
      some (iz (-1))
    else
      (nx_rd (tlen 1) (g 1) (g 0 1)).bind fun x1 =>
      some x1
set_option maxRecDepth 4000 in
theorem jT_signHere {Γ : nx_G} {M0 : nx_M} {t p : Nat} (hp : t + 4 < p) (u : Nat) (g : pS)   (X : nx_X) (Z : nx_Z) : nx_J Γ X (RX5, cX5_signHere, 1, (some .int), "signHere", 1) Z (fun r0 : Int32 => .inr (some (.int r0), (tW Γ M0 t p g))) (.inl (0, [some (.ref t)], [], (tW Γ M0 t p g))) (fT_signHere u g) := by
  unfold fT_signHere
  refine nx_aload_n rfl dX5_signHere_0 rfl ?_
  refine nx_getf fl_5_19 tW_t rfl dX5_signHere_1 rfl ?_
  refine nx_aload_n rfl dX5_signHere_4 rfl ?_
  refine nx_getf fl_5_15 tW_t rfl dX5_signHere_5 rfl ?_
  refine nx_icmp_ge (t := 33) dX5_signHere_8 (by decide) rfl ?_ ?_
  · refine nx_iconst dX5_signHere_33 rfl ?_
    exact nx_iret dX5_signHere_34 rfl rfl
  · refine nx_aload_n rfl dX5_signHere_11 rfl ?_
    refine nx_getf fl_5_19 tW_t rfl dX5_signHere_12 rfl ?_
    refine nx_sipush (by decide +kernel) dX5_signHere_15 rfl ?_
    refine nx_icmp_ge (t := 33) dX5_signHere_18 (by decide) rfl ?_ ?_
    · refine nx_iconst dX5_signHere_33 rfl ?_
      exact nx_iret dX5_signHere_34 rfl rfl
    · refine nx_aload_n rfl dX5_signHere_21 rfl ?_
      refine nx_getf fl_5_11 tW_t rfl dX5_signHere_22 rfl ?_
      refine nx_aload_n rfl dX5_signHere_25 rfl ?_
      refine nx_getf fl_5_19 tW_t rfl dX5_signHere_26 rfl ?_
      refine t_iald hp 1 (by decide) dX5_signHere_29 rfl (fun x1 => ?_)
      refine nx_goto (q := 34) dX5_signHere_30 (by decide) ?_
      exact nx_iret dX5_signHere_34 rfl rfl
theorem cT_signHere (l : Launch) {Γ : nx_G} {M0 : nx_M} {t p : Nat} (hp : t + 4 < p) {u : Nat} {g : pS} {r : Int32}  (h : fT_signHere u g = some r) : nx_Ct l Γ 1 yX5_signHere cX5_signHere 1 (some .int) [.ref t] (tW Γ M0 t p g) (some (.int r), (tW Γ M0 t p g)) :=
  nx_ct (out := fun r0 : Int32 => (some (.int r0), (tW Γ M0 t p g))) [some (.ref t)] pn_RX5 h (Nat.le_of_ble_eq_true rfl) rfl (fun X Z _ => jT_signHere hp u g X Z)
theorem dX5_nextSign_0 : decode cX5_nextSign 0 = .ok (.iconst 0, 1) := by decide +kernel
theorem dX5_nextSign_1 : decode cX5_nextSign 1 = .ok (.istore_n 1, 1) := by decide +kernel
theorem dX5_nextSign_2 : decode cX5_nextSign 2 = .ok (.iload_n 1, 1) := by decide +kernel
theorem dX5_nextSign_3 : decode cX5_nextSign 3 = .ok (.sipush 240, 3) := by decide +kernel
theorem dX5_nextSign_6 : decode cX5_nextSign 6 = .ok (.if_icmp .ge 28, 3) := by decide +kernel
theorem dX5_nextSign_9 : decode cX5_nextSign 9 = .ok (.aload_n 0, 1) := by decide +kernel
theorem dX5_nextSign_10 : decode cX5_nextSign 10 = .ok (.invokevirtual 22, 3) := by decide +kernel
theorem dX5_nextSign_13 : decode cX5_nextSign 13 = .ok (.bipush 32, 2) := by decide +kernel
theorem dX5_nextSign_15 : decode cX5_nextSign 15 = .ok (.if_icmp .ne 19, 3) := by decide +kernel
theorem dX5_nextSign_18 : decode cX5_nextSign 18 = .ok (.aload_n 0, 1) := by decide +kernel
theorem dX5_nextSign_19 : decode cX5_nextSign 19 = .ok (.dup, 1) := by decide +kernel
theorem dX5_nextSign_20 : decode cX5_nextSign 20 = .ok (.getfield 19, 3) := by decide +kernel
theorem dX5_nextSign_23 : decode cX5_nextSign 23 = .ok (.iconst 1, 1) := by decide +kernel
theorem dX5_nextSign_24 : decode cX5_nextSign 24 = .ok (.iadd, 1) := by decide +kernel
theorem dX5_nextSign_25 : decode cX5_nextSign 25 = .ok (.putfield 19, 3) := by decide +kernel
theorem dX5_nextSign_28 : decode cX5_nextSign 28 = .ok (.iinc 1 1, 3) := by decide +kernel
theorem dX5_nextSign_31 : decode cX5_nextSign 31 = .ok (.goto (-29), 3) := by decide +kernel
theorem dX5_nextSign_34 : decode cX5_nextSign 34 = .ok (.aload_n 0, 1) := by decide +kernel
theorem dX5_nextSign_35 : decode cX5_nextSign 35 = .ok (.invokevirtual 22, 3) := by decide +kernel
theorem dX5_nextSign_38 : decode cX5_nextSign 38 = .ok (.ireturn, 1) := by decide +kernel
def fT_nextSign_2 (u : Nat) (s1 : Int32 × pS) : Option ((Int32 × pS) ⊕ (pS)) :=
  if (iz 240) ≤ s1.1 then
    some (.inr s1.2)
  else
    (fT_signHere u s1.2).bind fun x2 =>
    if x2 = (iz 32) then
      (some (tFs s1.2 1 ((s1.2 0 1) + (iz 1)))).bind fun g3 =>
      some (.inl ((s1.1 + iz 1), g3))
    else
      some (.inr s1.2)
def fT_nextSign (u : Nat) (g : pS) : Option (Int32 × pS) :=
  (nx_iter u (fT_nextSign_2 u) ((iz 0), g)).bind fun e4 =>
  (fT_signHere u e4).bind fun x5 =>
  some (x5, e4)
set_option maxRecDepth 4000 in
theorem jT_nextSign_2 {Γ : nx_G} {M0 : nx_M} {t p : Nat} (hp : t + 4 < p) (u : Nat)   (X : nx_X) (Z : nx_Z) (s1 : Int32 × pS) : nx_J Γ X (RX5, cX5_nextSign, 2, (some .int), "nextSign", 2) Z (Sum.elim (fun s1 : Int32 × pS => .inl (2, [some (.ref t), some (.int s1.1)], [], (tW Γ M0 t p s1.2))) (fun e4 : pS => .inl (34, [some (.ref t), none], [], (tW Γ M0 t p e4)))) (.inl (2, [some (.ref t), some (.int s1.1)], [], (tW Γ M0 t p s1.2))) (fT_nextSign_2 u s1) := by
  unfold fT_nextSign_2
  refine nx_iload_n rfl dX5_nextSign_2 rfl ?_
  refine nx_sipush (by decide +kernel) dX5_nextSign_3 rfl ?_
  refine nx_icmp_ge (t := 34) dX5_nextSign_6 (by decide) rfl ?_ ?_
  · refine nx_weak (ls' := [some (.ref t), none]) (nx_wk_s (nx_wk_n nx_wk_e)) ?_
    obtain ⟨_, _⟩ := s1
    exact nx_leaf rfl
  · refine nx_aload_n rfl dX5_nextSign_9 rfl ?_
    refine nx_callVr [] (fun r => .int r) (fun _ => (tW Γ M0 t p s1.2)) cw_5_22 cv_X5_signHere (fun r e => cT_signHere X.2.1 hp e) tW_t rfl rfl (Nat.le_of_ble_eq_true rfl) (Nat.le_of_ble_eq_true rfl) dX5_nextSign_10 rfl (fun x2 => ?_)
    refine nx_bipush (by decide +kernel) dX5_nextSign_13 rfl ?_
    refine nx_icmp_ne (t := 34) dX5_nextSign_15 (by decide) rfl ?_ ?_
    · refine nx_weak (ls' := [some (.ref t), none]) (nx_wk_s (nx_wk_n nx_wk_e)) ?_
      obtain ⟨_, _⟩ := s1
      exact nx_leaf rfl
    · refine nx_aload_n rfl dX5_nextSign_18 rfl ?_
      refine nx_dup rfl dX5_nextSign_19 rfl ?_
      refine nx_getf fl_5_19 tW_t rfl dX5_nextSign_20 rfl ?_
      refine nx_iconst dX5_nextSign_23 rfl ?_
      refine nx_iadd dX5_nextSign_24 rfl ?_
      refine t_put (k := 1) (Or.inl fl_5_19) ft_5_2 tW_t rfl rfl (Nat.le_of_ble_eq_true rfl) (tW_fld hp t _ (Or.inl ⟨by decide, rfl, rfl⟩)) dX5_nextSign_25 rfl (fun g3 => ?_)
      refine nx_iinc [some (.ref t), some (.int (s1.1 + iz 1))] dX5_nextSign_28 rfl rfl (Nat.le_of_ble_eq_true rfl) rfl rfl ?_
      refine nx_goto (q := 2) dX5_nextSign_31 (by decide) ?_
      obtain ⟨_, _⟩ := s1
      exact nx_leaf rfl
set_option maxRecDepth 4000 in
theorem jT_nextSign {Γ : nx_G} {M0 : nx_M} {t p : Nat} (hp : t + 4 < p) (u : Nat) (g : pS)   (X : nx_X) (Z : nx_Z) : nx_J Γ X (RX5, cX5_nextSign, 2, (some .int), "nextSign", 2) Z (fun r0 : Int32 × pS => .inr (some (.int r0.1), (tW Γ M0 t p r0.2))) (.inl (0, [some (.ref t), none], [], (tW Γ M0 t p g))) (fT_nextSign u g) := by
  unfold fT_nextSign
  refine nx_iconst dX5_nextSign_0 rfl ?_
  refine nx_istore_n [some (.ref t), some (.int (iz 0))] dX5_nextSign_1 rfl (Nat.le_of_ble_eq_true rfl) rfl rfl ?_
  refine nx_seq (C1 := fun e4 : pS => .inl (34, [some (.ref t), none], [], (tW Γ M0 t p e4))) (nx_loop (C1 := fun s1 : Int32 × pS => .inl (2, [some (.ref t), some (.int s1.1)], [], (tW Γ M0 t p s1.2))) (fun s1 => jT_nextSign_2 hp u X Z s1) ((iz 0), g)) (fun e4 => ?_)
  refine nx_aload_n rfl dX5_nextSign_34 rfl ?_
  refine nx_callVr [] (fun r => .int r) (fun _ => (tW Γ M0 t p e4)) cw_5_22 cv_X5_signHere (fun r e => cT_signHere X.2.1 hp e) tW_t rfl rfl (Nat.le_of_ble_eq_true rfl) (Nat.le_of_ble_eq_true rfl) dX5_nextSign_35 rfl (fun x5 => ?_)
  exact nx_iret dX5_nextSign_38 rfl rfl
theorem cT_nextSign (l : Launch) {Γ : nx_G} {M0 : nx_M} {t p : Nat} (hp : t + 4 < p) {u : Nat} {g : pS} {r : Int32 × pS}  (h : fT_nextSign u g = some r) : nx_Ct l Γ 2 yX5_nextSign cX5_nextSign 2 (some .int) [.ref t] (tW Γ M0 t p g) (some (.int r.1), (tW Γ M0 t p r.2)) :=
  nx_ct (out := fun r0 : Int32 × pS => (some (.int r0.1), (tW Γ M0 t p r0.2))) [some (.ref t), none] pn_RX5 h (Nat.le_of_ble_eq_true rfl) rfl (fun X Z _ => jT_nextSign hp u g X Z)
theorem dX3_kindOf_0 : decode cX3_kindOf 0 = .ok (.iload_n 0, 1) := by decide +kernel
theorem dX3_kindOf_1 : decode cX3_kindOf 1 = .ok (.lookupswitch 71 #[(97, 67), (99, 65), (111, 59), (112, 69), (114, 61), (119, 63)], 59) := by decide +kernel
theorem dX3_kindOf_60 : decode cX3_kindOf 60 = .ok (.iconst 0, 1) := by decide +kernel
theorem dX3_kindOf_61 : decode cX3_kindOf 61 = .ok (.ireturn, 1) := by decide +kernel
theorem dX3_kindOf_62 : decode cX3_kindOf 62 = .ok (.iconst 1, 1) := by decide +kernel
theorem dX3_kindOf_63 : decode cX3_kindOf 63 = .ok (.ireturn, 1) := by decide +kernel
theorem dX3_kindOf_64 : decode cX3_kindOf 64 = .ok (.iconst 2, 1) := by decide +kernel
theorem dX3_kindOf_65 : decode cX3_kindOf 65 = .ok (.ireturn, 1) := by decide +kernel
theorem dX3_kindOf_66 : decode cX3_kindOf 66 = .ok (.iconst 3, 1) := by decide +kernel
theorem dX3_kindOf_67 : decode cX3_kindOf 67 = .ok (.ireturn, 1) := by decide +kernel
theorem dX3_kindOf_68 : decode cX3_kindOf 68 = .ok (.iconst 4, 1) := by decide +kernel
theorem dX3_kindOf_69 : decode cX3_kindOf 69 = .ok (.ireturn, 1) := by decide +kernel
theorem dX3_kindOf_70 : decode cX3_kindOf 70 = .ok (.iconst 5, 1) := by decide +kernel
theorem dX3_kindOf_71 : decode cX3_kindOf 71 = .ok (.ireturn, 1) := by decide +kernel
theorem dX3_kindOf_72 : decode cX3_kindOf 72 = .ok (.iconst (-1), 1) := by decide +kernel
theorem dX3_kindOf_73 : decode cX3_kindOf 73 = .ok (.ireturn, 1) := by decide +kernel
def fP_kindOf (u : Nat) (a1 : Int32) : Option (Int32) :=
  nx_ls a1 [
    (97, some (iz 4)),
    (99, some (iz 3)),
    (111, some (iz 0)),
    (112, some (iz 5)),
    (114, some (iz 1)),
    (119, some (iz 2)) ]
    (some (iz (-1)))
set_option maxRecDepth 4000 in
theorem jP_kindOf {Γ : nx_G} {M : nx_M} (u : Nat) (a1 : Int32)   (X : nx_X) (Z : nx_Z) : nx_J Γ X (RX3, cX3_kindOf, 1, (some .int), "kindOf", 1) Z (fun r0 : Int32 => .inr (some (.int r0), M)) (.inl (0, [some (.int a1)], [], M)) (fP_kindOf u a1) := by
  unfold fP_kindOf
  refine nx_iload_n rfl dX3_kindOf_0 rfl ?_
  refine nx_lsw (td := 72) dX3_kindOf_1 rfl (by decide) ?_ ?_
  · refine nx_iconst dX3_kindOf_72 rfl ?_
    exact nx_iret dX3_kindOf_73 rfl rfl
  refine nx_lsl_c 68 (by decide) ?_ ?_
  · refine nx_iconst dX3_kindOf_68 rfl ?_
    exact nx_iret dX3_kindOf_69 rfl rfl
  refine nx_lsl_c 66 (by decide) ?_ ?_
  · refine nx_iconst dX3_kindOf_66 rfl ?_
    exact nx_iret dX3_kindOf_67 rfl rfl
  refine nx_lsl_c 60 (by decide) ?_ ?_
  · refine nx_iconst dX3_kindOf_60 rfl ?_
    exact nx_iret dX3_kindOf_61 rfl rfl
  refine nx_lsl_c 70 (by decide) ?_ ?_
  · refine nx_iconst dX3_kindOf_70 rfl ?_
    exact nx_iret dX3_kindOf_71 rfl rfl
  refine nx_lsl_c 62 (by decide) ?_ ?_
  · refine nx_iconst dX3_kindOf_62 rfl ?_
    exact nx_iret dX3_kindOf_63 rfl rfl
  refine nx_lsl_c 64 (by decide) ?_ ?_
  · refine nx_iconst dX3_kindOf_64 rfl ?_
    exact nx_iret dX3_kindOf_65 rfl rfl
  exact nx_lsl_e
theorem cP_kindOf (l : Launch) {Γ : nx_G} {M : nx_M} {u : Nat} {a1 : Int32} {r : Int32}  (h : fP_kindOf u a1 = some r) : nx_Ct l Γ 1 yX3_kindOf cX3_kindOf 1 (some .int) [.int a1] M (some (.int r), M) :=
  nx_ct (out := fun r0 : Int32 => (some (.int r0), M)) [some (.int a1)] pn_RX3 h (Nat.le_of_ble_eq_true rfl) rfl (fun X Z _ => jP_kindOf  u a1 X Z)
theorem dX5_pass_0 : decode cX5_pass 0 = .ok (.aload_n 0, 1) := by decide +kernel
theorem dX5_pass_1 : decode cX5_pass 1 = .ok (.dup, 1) := by decide +kernel
theorem dX5_pass_2 : decode cX5_pass 2 = .ok (.getfield 19, 3) := by decide +kernel
theorem dX5_pass_5 : decode cX5_pass 5 = .ok (.iconst 1, 1) := by decide +kernel
theorem dX5_pass_6 : decode cX5_pass 6 = .ok (.iadd, 1) := by decide +kernel
theorem dX5_pass_7 : decode cX5_pass 7 = .ok (.putfield 19, 3) := by decide +kernel
theorem dX5_pass_10 : decode cX5_pass 10 = .ok (.return_, 1) := by decide +kernel
def fT_pass (u : Nat) (g : pS) : Option (pS) :=
  (some (tFs g 1 ((g 0 1) + (iz 1)))).bind fun g1 =>
  some g1
set_option maxRecDepth 4000 in
theorem jT_pass {Γ : nx_G} {M0 : nx_M} {t p : Nat} (hp : t + 4 < p) (u : Nat) (g : pS)   (X : nx_X) (Z : nx_Z) : nx_J Γ X (RX5, cX5_pass, 1, none, "pass", 1) Z (fun r0 : pS => .inr (none, (tW Γ M0 t p r0))) (.inl (0, [some (.ref t)], [], (tW Γ M0 t p g))) (fT_pass u g) := by
  unfold fT_pass
  refine nx_aload_n rfl dX5_pass_0 rfl ?_
  refine nx_dup rfl dX5_pass_1 rfl ?_
  refine nx_getf fl_5_19 tW_t rfl dX5_pass_2 rfl ?_
  refine nx_iconst dX5_pass_5 rfl ?_
  refine nx_iadd dX5_pass_6 rfl ?_
  refine t_put (k := 1) (Or.inl fl_5_19) ft_5_2 tW_t rfl rfl (Nat.le_of_ble_eq_true rfl) (tW_fld hp t _ (Or.inl ⟨by decide, rfl, rfl⟩)) dX5_pass_7 rfl (fun g1 => ?_)
  exact nx_vret dX5_pass_10 rfl rfl
theorem cT_pass (l : Launch) {Γ : nx_G} {M0 : nx_M} {t p : Nat} (hp : t + 4 < p) {u : Nat} {g : pS} {r : pS}  (h : fT_pass u g = some r) : nx_Ct l Γ 1 yX5_pass cX5_pass 1 none [.ref t] (tW Γ M0 t p g) (none, (tW Γ M0 t p r)) :=
  nx_ct (out := fun r0 : pS => (none, (tW Γ M0 t p r0))) [some (.ref t)] pn_RX5 h (Nat.le_of_ble_eq_true rfl) rfl (fun X Z _ => jT_pass hp u g X Z)
theorem dX5_digitHere_0 : decode cX5_digitHere 0 = .ok (.aload_n 0, 1) := by decide +kernel
theorem dX5_digitHere_1 : decode cX5_digitHere 1 = .ok (.invokevirtual 22, 3) := by decide +kernel
theorem dX5_digitHere_4 : decode cX5_digitHere 4 = .ok (.istore_n 1, 1) := by decide +kernel
theorem dX5_digitHere_5 : decode cX5_digitHere 5 = .ok (.iload_n 1, 1) := by decide +kernel
theorem dX5_digitHere_6 : decode cX5_digitHere 6 = .ok (.bipush 48, 2) := by decide +kernel
theorem dX5_digitHere_8 : decode cX5_digitHere 8 = .ok (.if_icmp .lt 16, 3) := by decide +kernel
theorem dX5_digitHere_11 : decode cX5_digitHere 11 = .ok (.iload_n 1, 1) := by decide +kernel
theorem dX5_digitHere_12 : decode cX5_digitHere 12 = .ok (.bipush 57, 2) := by decide +kernel
theorem dX5_digitHere_14 : decode cX5_digitHere 14 = .ok (.if_icmp .gt 10, 3) := by decide +kernel
theorem dX5_digitHere_17 : decode cX5_digitHere 17 = .ok (.iload_n 1, 1) := by decide +kernel
theorem dX5_digitHere_18 : decode cX5_digitHere 18 = .ok (.bipush 48, 2) := by decide +kernel
theorem dX5_digitHere_20 : decode cX5_digitHere 20 = .ok (.isub, 1) := by decide +kernel
theorem dX5_digitHere_21 : decode cX5_digitHere 21 = .ok (.goto 4, 3) := by decide +kernel
theorem dX5_digitHere_24 : decode cX5_digitHere 24 = .ok (.iconst (-1), 1) := by decide +kernel
theorem dX5_digitHere_25 : decode cX5_digitHere 25 = .ok (.ireturn, 1) := by decide +kernel
def fT_digitHere (u : Nat) (g : pS) : Option (Int32) :=
  (fT_signHere u g).bind fun x1 =>
  if x1 < (iz 48) then
    some (iz (-1))
  else
    if (iz 57) < x1 then
      some (iz (-1))
    else
      some (x1 - (iz 48))
set_option maxRecDepth 4000 in
theorem jT_digitHere {Γ : nx_G} {M0 : nx_M} {t p : Nat} (hp : t + 4 < p) (u : Nat) (g : pS)   (X : nx_X) (Z : nx_Z) : nx_J Γ X (RX5, cX5_digitHere, 2, (some .int), "digitHere", 2) Z (fun r0 : Int32 => .inr (some (.int r0), (tW Γ M0 t p g))) (.inl (0, [some (.ref t), none], [], (tW Γ M0 t p g))) (fT_digitHere u g) := by
  unfold fT_digitHere
  refine nx_aload_n rfl dX5_digitHere_0 rfl ?_
  refine nx_callVr [] (fun r => .int r) (fun _ => (tW Γ M0 t p g)) cw_5_22 cv_X5_signHere (fun r e => cT_signHere X.2.1 hp e) tW_t rfl rfl (Nat.le_of_ble_eq_true rfl) (Nat.le_of_ble_eq_true rfl) dX5_digitHere_1 rfl (fun x1 => ?_)
  refine nx_istore_n [some (.ref t), some (.int x1)] dX5_digitHere_4 rfl (Nat.le_of_ble_eq_true rfl) rfl rfl ?_
  refine nx_iload_n rfl dX5_digitHere_5 rfl ?_
  refine nx_bipush (by decide +kernel) dX5_digitHere_6 rfl ?_
  refine nx_icmp_lt (t := 24) dX5_digitHere_8 (by decide) rfl ?_ ?_
  · refine nx_iconst dX5_digitHere_24 rfl ?_
    exact nx_iret dX5_digitHere_25 rfl rfl
  · refine nx_iload_n rfl dX5_digitHere_11 rfl ?_
    refine nx_bipush (by decide +kernel) dX5_digitHere_12 rfl ?_
    refine nx_icmp_gt (t := 24) dX5_digitHere_14 (by decide) rfl ?_ ?_
    · refine nx_iconst dX5_digitHere_24 rfl ?_
      exact nx_iret dX5_digitHere_25 rfl rfl
    · refine nx_iload_n rfl dX5_digitHere_17 rfl ?_
      refine nx_bipush (by decide +kernel) dX5_digitHere_18 rfl ?_
      refine nx_isub dX5_digitHere_20 rfl ?_
      refine nx_goto (q := 25) dX5_digitHere_21 (by decide) ?_
      exact nx_iret dX5_digitHere_25 rfl rfl
theorem cT_digitHere (l : Launch) {Γ : nx_G} {M0 : nx_M} {t p : Nat} (hp : t + 4 < p) {u : Nat} {g : pS} {r : Int32}  (h : fT_digitHere u g = some r) : nx_Ct l Γ 2 yX5_digitHere cX5_digitHere 2 (some .int) [.ref t] (tW Γ M0 t p g) (some (.int r), (tW Γ M0 t p g)) :=
  nx_ct (out := fun r0 : Int32 => (some (.int r0), (tW Γ M0 t p g))) [some (.ref t), none] pn_RX5 h (Nat.le_of_ble_eq_true rfl) rfl (fun X Z _ => jT_digitHere hp u g X Z)
theorem dX5_hasNumber_0 : decode cX5_hasNumber 0 = .ok (.aload_n 0, 1) := by decide +kernel
theorem dX5_hasNumber_1 : decode cX5_hasNumber 1 = .ok (.invokevirtual 26, 3) := by decide +kernel
theorem dX5_hasNumber_4 : decode cX5_hasNumber 4 = .ok (.pop, 1) := by decide +kernel
theorem dX5_hasNumber_5 : decode cX5_hasNumber 5 = .ok (.aload_n 0, 1) := by decide +kernel
theorem dX5_hasNumber_6 : decode cX5_hasNumber 6 = .ok (.invokevirtual 29, 3) := by decide +kernel
theorem dX5_hasNumber_9 : decode cX5_hasNumber 9 = .ok (.iconst (-1), 1) := by decide +kernel
theorem dX5_hasNumber_10 : decode cX5_hasNumber 10 = .ok (.if_icmp .ne 5, 3) := by decide +kernel
theorem dX5_hasNumber_13 : decode cX5_hasNumber 13 = .ok (.iconst 0, 1) := by decide +kernel
theorem dX5_hasNumber_14 : decode cX5_hasNumber 14 = .ok (.ireturn, 1) := by decide +kernel
theorem dX5_hasNumber_15 : decode cX5_hasNumber 15 = .ok (.aload_n 0, 1) := by decide +kernel
theorem dX5_hasNumber_16 : decode cX5_hasNumber 16 = .ok (.aload_n 0, 1) := by decide +kernel
theorem dX5_hasNumber_17 : decode cX5_hasNumber 17 = .ok (.invokevirtual 29, 3) := by decide +kernel
theorem dX5_hasNumber_20 : decode cX5_hasNumber 20 = .ok (.putfield 32, 3) := by decide +kernel
theorem dX5_hasNumber_23 : decode cX5_hasNumber 23 = .ok (.aload_n 0, 1) := by decide +kernel
theorem dX5_hasNumber_24 : decode cX5_hasNumber 24 = .ok (.dup, 1) := by decide +kernel
theorem dX5_hasNumber_25 : decode cX5_hasNumber 25 = .ok (.getfield 19, 3) := by decide +kernel
theorem dX5_hasNumber_28 : decode cX5_hasNumber 28 = .ok (.iconst 1, 1) := by decide +kernel
theorem dX5_hasNumber_29 : decode cX5_hasNumber 29 = .ok (.iadd, 1) := by decide +kernel
theorem dX5_hasNumber_30 : decode cX5_hasNumber 30 = .ok (.putfield 19, 3) := by decide +kernel
theorem dX5_hasNumber_33 : decode cX5_hasNumber 33 = .ok (.aload_n 0, 1) := by decide +kernel
theorem dX5_hasNumber_34 : decode cX5_hasNumber 34 = .ok (.invokevirtual 29, 3) := by decide +kernel
theorem dX5_hasNumber_37 : decode cX5_hasNumber 37 = .ok (.iconst (-1), 1) := by decide +kernel
theorem dX5_hasNumber_38 : decode cX5_hasNumber 38 = .ok (.if_icmp .eq 39, 3) := by decide +kernel
theorem dX5_hasNumber_41 : decode cX5_hasNumber 41 = .ok (.aload_n 0, 1) := by decide +kernel
theorem dX5_hasNumber_42 : decode cX5_hasNumber 42 = .ok (.aload_n 0, 1) := by decide +kernel
theorem dX5_hasNumber_43 : decode cX5_hasNumber 43 = .ok (.getfield 32, 3) := by decide +kernel
theorem dX5_hasNumber_46 : decode cX5_hasNumber 46 = .ok (.bipush 10, 2) := by decide +kernel
theorem dX5_hasNumber_48 : decode cX5_hasNumber 48 = .ok (.imul, 1) := by decide +kernel
theorem dX5_hasNumber_49 : decode cX5_hasNumber 49 = .ok (.aload_n 0, 1) := by decide +kernel
theorem dX5_hasNumber_50 : decode cX5_hasNumber 50 = .ok (.invokevirtual 29, 3) := by decide +kernel
theorem dX5_hasNumber_53 : decode cX5_hasNumber 53 = .ok (.iadd, 1) := by decide +kernel
theorem dX5_hasNumber_54 : decode cX5_hasNumber 54 = .ok (.putfield 32, 3) := by decide +kernel
theorem dX5_hasNumber_57 : decode cX5_hasNumber 57 = .ok (.aload_n 0, 1) := by decide +kernel
theorem dX5_hasNumber_58 : decode cX5_hasNumber 58 = .ok (.dup, 1) := by decide +kernel
theorem dX5_hasNumber_59 : decode cX5_hasNumber 59 = .ok (.getfield 19, 3) := by decide +kernel
theorem dX5_hasNumber_62 : decode cX5_hasNumber 62 = .ok (.iconst 1, 1) := by decide +kernel
theorem dX5_hasNumber_63 : decode cX5_hasNumber 63 = .ok (.iadd, 1) := by decide +kernel
theorem dX5_hasNumber_64 : decode cX5_hasNumber 64 = .ok (.putfield 19, 3) := by decide +kernel
theorem dX5_hasNumber_67 : decode cX5_hasNumber 67 = .ok (.aload_n 0, 1) := by decide +kernel
theorem dX5_hasNumber_68 : decode cX5_hasNumber 68 = .ok (.invokevirtual 29, 3) := by decide +kernel
theorem dX5_hasNumber_71 : decode cX5_hasNumber 71 = .ok (.iconst (-1), 1) := by decide +kernel
theorem dX5_hasNumber_72 : decode cX5_hasNumber 72 = .ok (.if_icmp .eq 5, 3) := by decide +kernel
theorem dX5_hasNumber_75 : decode cX5_hasNumber 75 = .ok (.iconst 0, 1) := by decide +kernel
theorem dX5_hasNumber_76 : decode cX5_hasNumber 76 = .ok (.ireturn, 1) := by decide +kernel
theorem dX5_hasNumber_77 : decode cX5_hasNumber 77 = .ok (.aload_n 0, 1) := by decide +kernel
theorem dX5_hasNumber_78 : decode cX5_hasNumber 78 = .ok (.getfield 32, 3) := by decide +kernel
theorem dX5_hasNumber_81 : decode cX5_hasNumber 81 = .ok (.iload_n 1, 1) := by decide +kernel
theorem dX5_hasNumber_82 : decode cX5_hasNumber 82 = .ok (.if_icmp .lt 11, 3) := by decide +kernel
theorem dX5_hasNumber_85 : decode cX5_hasNumber 85 = .ok (.aload_n 0, 1) := by decide +kernel
theorem dX5_hasNumber_86 : decode cX5_hasNumber 86 = .ok (.getfield 32, 3) := by decide +kernel
theorem dX5_hasNumber_89 : decode cX5_hasNumber 89 = .ok (.iload_n 2, 1) := by decide +kernel
theorem dX5_hasNumber_90 : decode cX5_hasNumber 90 = .ok (.if_icmp .le 15, 3) := by decide +kernel
theorem dX5_hasNumber_93 : decode cX5_hasNumber 93 = .ok (.aload_n 0, 1) := by decide +kernel
theorem dX5_hasNumber_94 : decode cX5_hasNumber 94 = .ok (.dup, 1) := by decide +kernel
theorem dX5_hasNumber_95 : decode cX5_hasNumber 95 = .ok (.getfield 19, 3) := by decide +kernel
theorem dX5_hasNumber_98 : decode cX5_hasNumber 98 = .ok (.iconst 1, 1) := by decide +kernel
theorem dX5_hasNumber_99 : decode cX5_hasNumber 99 = .ok (.isub, 1) := by decide +kernel
theorem dX5_hasNumber_100 : decode cX5_hasNumber 100 = .ok (.putfield 19, 3) := by decide +kernel
theorem dX5_hasNumber_103 : decode cX5_hasNumber 103 = .ok (.iconst 0, 1) := by decide +kernel
theorem dX5_hasNumber_104 : decode cX5_hasNumber 104 = .ok (.ireturn, 1) := by decide +kernel
theorem dX5_hasNumber_105 : decode cX5_hasNumber 105 = .ok (.iconst 1, 1) := by decide +kernel
theorem dX5_hasNumber_106 : decode cX5_hasNumber 106 = .ok (.ireturn, 1) := by decide +kernel
def fT_hasNumber (u : Nat) (g : pS) (a1 : Int32) (a2 : Int32) : Option (Bool × pS) :=
  (fT_nextSign u g).bind fun p1 =>
  (fT_digitHere u p1.2).bind fun x2 =>
  if x2 = (iz (-1)) then
    some (false, p1.2)
  else
    (fT_digitHere u p1.2).bind fun x3 =>
    (some (tFs p1.2 2 x3)).bind fun g4 =>
    (some (tFs g4 1 ((g4 0 1) + (iz 1)))).bind fun g5 =>
    (fT_digitHere u g5).bind fun x6 =>
    if x6 = (iz (-1)) then
      if (g5 0 2) < a1 then
        (some (tFs g5 1 ((g5 0 1) - (iz 1)))).bind fun g7 =>
        some (false, g7)
      else
        if (g5 0 2) ≤ a2 then
          some (true, g5)
        else
          (some (tFs g5 1 ((g5 0 1) - (iz 1)))).bind fun g8 =>
          some (false, g8)
    else
      (fT_digitHere u g5).bind fun x9 =>
      (some (tFs g5 2 (((g5 0 2) * (iz 10)) + x9))).bind fun g10 =>
      (some (tFs g10 1 ((g10 0 1) + (iz 1)))).bind fun g11 =>
      (fT_digitHere u g11).bind fun x12 =>
      if x12 = (iz (-1)) then
        if (g11 0 2) < a1 then
          (some (tFs g11 1 ((g11 0 1) - (iz 1)))).bind fun g13 =>
          some (false, g13)
        else
          if (g11 0 2) ≤ a2 then
            some (true, g11)
          else
            (some (tFs g11 1 ((g11 0 1) - (iz 1)))).bind fun g14 =>
            some (false, g14)
      else
        some (false, g11)
set_option maxRecDepth 4000 in
theorem jT_hasNumber {Γ : nx_G} {M0 : nx_M} {t p : Nat} (hp : t + 4 < p) (u : Nat) (g : pS) (a1 : Int32) (a2 : Int32)   (X : nx_X) (Z : nx_Z) : nx_J Γ X (RX5, cX5_hasNumber, 3, (some .boolean), "hasNumber", 3) Z (fun r0 : Bool × pS => .inr (some (.int (bz r0.1)), (tW Γ M0 t p r0.2))) (.inl (0, [some (.ref t), some (.int a1), some (.int a2)], [], (tW Γ M0 t p g))) (fT_hasNumber u g a1 a2) := by
  unfold fT_hasNumber
  refine nx_aload_n rfl dX5_hasNumber_0 rfl ?_
  refine nx_callVr [] (fun r => .int r.1) (fun r => (tW Γ M0 t p r.2)) cw_5_26 cv_X5_nextSign (fun r e => cT_nextSign X.2.1 hp e) tW_t rfl rfl (Nat.le_of_ble_eq_true rfl) (Nat.le_of_ble_eq_true rfl) dX5_hasNumber_1 rfl (fun p1 => ?_)
  refine nx_pop rfl dX5_hasNumber_4 rfl ?_
  refine nx_aload_n rfl dX5_hasNumber_5 rfl ?_
  refine nx_callVr [] (fun r => .int r) (fun _ => (tW Γ M0 t p p1.2)) cw_5_29 cv_X5_digitHere (fun r e => cT_digitHere X.2.1 hp e) tW_t rfl rfl (Nat.le_of_ble_eq_true rfl) (Nat.le_of_ble_eq_true rfl) dX5_hasNumber_6 rfl (fun x2 => ?_)
  refine nx_iconst dX5_hasNumber_9 rfl ?_
  refine nx_icmp_ne (t := 15) dX5_hasNumber_10 (by decide) rfl ?_ ?_
  · refine nx_aload_n rfl dX5_hasNumber_15 rfl ?_
    refine nx_aload_n rfl dX5_hasNumber_16 rfl ?_
    refine nx_callVr [] (fun r => .int r) (fun _ => (tW Γ M0 t p p1.2)) cw_5_29 cv_X5_digitHere (fun r e => cT_digitHere X.2.1 hp e) tW_t rfl rfl (Nat.le_of_ble_eq_true rfl) (Nat.le_of_ble_eq_true rfl) dX5_hasNumber_17 rfl (fun x3 => ?_)
    refine t_put (k := 2) (Or.inl fl_5_32) ft_5_3 tW_t rfl rfl (Nat.le_of_ble_eq_true rfl) (tW_fld hp t _ (Or.inl ⟨by decide, rfl, rfl⟩)) dX5_hasNumber_20 rfl (fun g4 => ?_)
    refine nx_aload_n rfl dX5_hasNumber_23 rfl ?_
    refine nx_dup rfl dX5_hasNumber_24 rfl ?_
    refine nx_getf fl_5_19 tW_t rfl dX5_hasNumber_25 rfl ?_
    refine nx_iconst dX5_hasNumber_28 rfl ?_
    refine nx_iadd dX5_hasNumber_29 rfl ?_
    refine t_put (k := 1) (Or.inl fl_5_19) ft_5_2 tW_t rfl rfl (Nat.le_of_ble_eq_true rfl) (tW_fld hp t _ (Or.inl ⟨by decide, rfl, rfl⟩)) dX5_hasNumber_30 rfl (fun g5 => ?_)
    refine nx_aload_n rfl dX5_hasNumber_33 rfl ?_
    refine nx_callVr [] (fun r => .int r) (fun _ => (tW Γ M0 t p g5)) cw_5_29 cv_X5_digitHere (fun r e => cT_digitHere X.2.1 hp e) tW_t rfl rfl (Nat.le_of_ble_eq_true rfl) (Nat.le_of_ble_eq_true rfl) dX5_hasNumber_34 rfl (fun x6 => ?_)
    refine nx_iconst dX5_hasNumber_37 rfl ?_
    refine nx_icmp_eq (t := 77) dX5_hasNumber_38 (by decide) rfl ?_ ?_
    · refine nx_aload_n rfl dX5_hasNumber_77 rfl ?_
      refine nx_getf fl_5_32 tW_t rfl dX5_hasNumber_78 rfl ?_
      refine nx_iload_n rfl dX5_hasNumber_81 rfl ?_
      refine nx_icmp_lt (t := 93) dX5_hasNumber_82 (by decide) rfl ?_ ?_
      · refine nx_aload_n rfl dX5_hasNumber_93 rfl ?_
        refine nx_dup rfl dX5_hasNumber_94 rfl ?_
        refine nx_getf fl_5_19 tW_t rfl dX5_hasNumber_95 rfl ?_
        refine nx_iconst dX5_hasNumber_98 rfl ?_
        refine nx_isub dX5_hasNumber_99 rfl ?_
        refine t_put (k := 1) (Or.inl fl_5_19) ft_5_2 tW_t rfl rfl (Nat.le_of_ble_eq_true rfl) (tW_fld hp t _ (Or.inl ⟨by decide, rfl, rfl⟩)) dX5_hasNumber_100 rfl (fun g7 => ?_)
        refine nx_iconst dX5_hasNumber_103 rfl ?_
        exact nx_zret (b := false) dX5_hasNumber_104 rfl rfl
      · refine nx_aload_n rfl dX5_hasNumber_85 rfl ?_
        refine nx_getf fl_5_32 tW_t rfl dX5_hasNumber_86 rfl ?_
        refine nx_iload_n rfl dX5_hasNumber_89 rfl ?_
        refine nx_icmp_le (t := 105) dX5_hasNumber_90 (by decide) rfl ?_ ?_
        · refine nx_iconst dX5_hasNumber_105 rfl ?_
          exact nx_zret (b := true) dX5_hasNumber_106 rfl rfl
        · refine nx_aload_n rfl dX5_hasNumber_93 rfl ?_
          refine nx_dup rfl dX5_hasNumber_94 rfl ?_
          refine nx_getf fl_5_19 tW_t rfl dX5_hasNumber_95 rfl ?_
          refine nx_iconst dX5_hasNumber_98 rfl ?_
          refine nx_isub dX5_hasNumber_99 rfl ?_
          refine t_put (k := 1) (Or.inl fl_5_19) ft_5_2 tW_t rfl rfl (Nat.le_of_ble_eq_true rfl) (tW_fld hp t _ (Or.inl ⟨by decide, rfl, rfl⟩)) dX5_hasNumber_100 rfl (fun g8 => ?_)
          refine nx_iconst dX5_hasNumber_103 rfl ?_
          exact nx_zret (b := false) dX5_hasNumber_104 rfl rfl
    · refine nx_aload_n rfl dX5_hasNumber_41 rfl ?_
      refine nx_aload_n rfl dX5_hasNumber_42 rfl ?_
      refine nx_getf fl_5_32 tW_t rfl dX5_hasNumber_43 rfl ?_
      refine nx_bipush (by decide +kernel) dX5_hasNumber_46 rfl ?_
      refine nx_imul dX5_hasNumber_48 rfl ?_
      refine nx_aload_n rfl dX5_hasNumber_49 rfl ?_
      refine nx_callVr [] (fun r => .int r) (fun _ => (tW Γ M0 t p g5)) cw_5_29 cv_X5_digitHere (fun r e => cT_digitHere X.2.1 hp e) tW_t rfl rfl (Nat.le_of_ble_eq_true rfl) (Nat.le_of_ble_eq_true rfl) dX5_hasNumber_50 rfl (fun x9 => ?_)
      refine nx_iadd dX5_hasNumber_53 rfl ?_
      refine t_put (k := 2) (Or.inl fl_5_32) ft_5_3 tW_t rfl rfl (Nat.le_of_ble_eq_true rfl) (tW_fld hp t _ (Or.inl ⟨by decide, rfl, rfl⟩)) dX5_hasNumber_54 rfl (fun g10 => ?_)
      refine nx_aload_n rfl dX5_hasNumber_57 rfl ?_
      refine nx_dup rfl dX5_hasNumber_58 rfl ?_
      refine nx_getf fl_5_19 tW_t rfl dX5_hasNumber_59 rfl ?_
      refine nx_iconst dX5_hasNumber_62 rfl ?_
      refine nx_iadd dX5_hasNumber_63 rfl ?_
      refine t_put (k := 1) (Or.inl fl_5_19) ft_5_2 tW_t rfl rfl (Nat.le_of_ble_eq_true rfl) (tW_fld hp t _ (Or.inl ⟨by decide, rfl, rfl⟩)) dX5_hasNumber_64 rfl (fun g11 => ?_)
      refine nx_aload_n rfl dX5_hasNumber_67 rfl ?_
      refine nx_callVr [] (fun r => .int r) (fun _ => (tW Γ M0 t p g11)) cw_5_29 cv_X5_digitHere (fun r e => cT_digitHere X.2.1 hp e) tW_t rfl rfl (Nat.le_of_ble_eq_true rfl) (Nat.le_of_ble_eq_true rfl) dX5_hasNumber_68 rfl (fun x12 => ?_)
      refine nx_iconst dX5_hasNumber_71 rfl ?_
      refine nx_icmp_eq (t := 77) dX5_hasNumber_72 (by decide) rfl ?_ ?_
      · refine nx_aload_n rfl dX5_hasNumber_77 rfl ?_
        refine nx_getf fl_5_32 tW_t rfl dX5_hasNumber_78 rfl ?_
        refine nx_iload_n rfl dX5_hasNumber_81 rfl ?_
        refine nx_icmp_lt (t := 93) dX5_hasNumber_82 (by decide) rfl ?_ ?_
        · refine nx_aload_n rfl dX5_hasNumber_93 rfl ?_
          refine nx_dup rfl dX5_hasNumber_94 rfl ?_
          refine nx_getf fl_5_19 tW_t rfl dX5_hasNumber_95 rfl ?_
          refine nx_iconst dX5_hasNumber_98 rfl ?_
          refine nx_isub dX5_hasNumber_99 rfl ?_
          refine t_put (k := 1) (Or.inl fl_5_19) ft_5_2 tW_t rfl rfl (Nat.le_of_ble_eq_true rfl) (tW_fld hp t _ (Or.inl ⟨by decide, rfl, rfl⟩)) dX5_hasNumber_100 rfl (fun g13 => ?_)
          refine nx_iconst dX5_hasNumber_103 rfl ?_
          exact nx_zret (b := false) dX5_hasNumber_104 rfl rfl
        · refine nx_aload_n rfl dX5_hasNumber_85 rfl ?_
          refine nx_getf fl_5_32 tW_t rfl dX5_hasNumber_86 rfl ?_
          refine nx_iload_n rfl dX5_hasNumber_89 rfl ?_
          refine nx_icmp_le (t := 105) dX5_hasNumber_90 (by decide) rfl ?_ ?_
          · refine nx_iconst dX5_hasNumber_105 rfl ?_
            exact nx_zret (b := true) dX5_hasNumber_106 rfl rfl
          · refine nx_aload_n rfl dX5_hasNumber_93 rfl ?_
            refine nx_dup rfl dX5_hasNumber_94 rfl ?_
            refine nx_getf fl_5_19 tW_t rfl dX5_hasNumber_95 rfl ?_
            refine nx_iconst dX5_hasNumber_98 rfl ?_
            refine nx_isub dX5_hasNumber_99 rfl ?_
            refine t_put (k := 1) (Or.inl fl_5_19) ft_5_2 tW_t rfl rfl (Nat.le_of_ble_eq_true rfl) (tW_fld hp t _ (Or.inl ⟨by decide, rfl, rfl⟩)) dX5_hasNumber_100 rfl (fun g14 => ?_)
            refine nx_iconst dX5_hasNumber_103 rfl ?_
            exact nx_zret (b := false) dX5_hasNumber_104 rfl rfl
      · refine nx_iconst dX5_hasNumber_75 rfl ?_
        exact nx_zret (b := false) dX5_hasNumber_76 rfl rfl
  · refine nx_iconst dX5_hasNumber_13 rfl ?_
    exact nx_zret (b := false) dX5_hasNumber_14 rfl rfl
theorem cT_hasNumber (l : Launch) {Γ : nx_G} {M0 : nx_M} {t p : Nat} (hp : t + 4 < p) {u : Nat} {g : pS} {a1 : Int32} {a2 : Int32} {r : Bool × pS}  (h : fT_hasNumber u g a1 a2 = some r) : nx_Ct l Γ 3 yX5_hasNumber cX5_hasNumber 3 (some .boolean) [.ref t, .int a1, .int a2] (tW Γ M0 t p g) (some (.int (bz r.1)), (tW Γ M0 t p r.2)) :=
  nx_ct (out := fun r0 : Bool × pS => (some (.int (bz r0.1)), (tW Γ M0 t p r0.2))) [some (.ref t), some (.int a1), some (.int a2)] pn_RX5 h (Nat.le_of_ble_eq_true rfl) rfl (fun X Z _ => jT_hasNumber hp u g a1 a2 X Z)
theorem dX3_hasValue_0 : decode cX3_hasValue 0 = .ok (.aload_n 1, 1) := by decide +kernel
theorem dX3_hasValue_1 : decode cX3_hasValue 1 = .ok (.invokevirtual 35, 3) := by decide +kernel
theorem dX3_hasValue_4 : decode cX3_hasValue 4 = .ok (.bipush 58, 2) := by decide +kernel
theorem dX3_hasValue_6 : decode cX3_hasValue 6 = .ok (.if_icmp .eq 5, 3) := by decide +kernel
theorem dX3_hasValue_9 : decode cX3_hasValue 9 = .ok (.iconst 0, 1) := by decide +kernel
theorem dX3_hasValue_10 : decode cX3_hasValue 10 = .ok (.ireturn, 1) := by decide +kernel
theorem dX3_hasValue_11 : decode cX3_hasValue 11 = .ok (.aload_n 1, 1) := by decide +kernel
theorem dX3_hasValue_12 : decode cX3_hasValue 12 = .ok (.invokevirtual 39, 3) := by decide +kernel
theorem dX3_hasValue_15 : decode cX3_hasValue 15 = .ok (.aload_n 1, 1) := by decide +kernel
theorem dX3_hasValue_16 : decode cX3_hasValue 16 = .ok (.iconst 0, 1) := by decide +kernel
theorem dX3_hasValue_17 : decode cX3_hasValue 17 = .ok (.bipush 99, 2) := by decide +kernel
theorem dX3_hasValue_19 : decode cX3_hasValue 19 = .ok (.invokevirtual 52, 3) := by decide +kernel
theorem dX3_hasValue_22 : decode cX3_hasValue 22 = .ok (.ifCond .eq 15, 3) := by decide +kernel
theorem dX3_hasValue_25 : decode cX3_hasValue 25 = .ok (.iload_n 2, 1) := by decide +kernel
theorem dX3_hasValue_26 : decode cX3_hasValue 26 = .ok (.aload_n 0, 1) := by decide +kernel
theorem dX3_hasValue_27 : decode cX3_hasValue 27 = .ok (.getfield 11, 3) := by decide +kernel
theorem dX3_hasValue_30 : decode cX3_hasValue 30 = .ok (.arraylength, 1) := by decide +kernel
theorem dX3_hasValue_31 : decode cX3_hasValue 31 = .ok (.invokestatic 15, 3) := by decide +kernel
theorem dX3_hasValue_34 : decode cX3_hasValue 34 = .ok (.ifCond .ne 5, 3) := by decide +kernel
theorem dX3_hasValue_37 : decode cX3_hasValue 37 = .ok (.iconst 0, 1) := by decide +kernel
theorem dX3_hasValue_38 : decode cX3_hasValue 38 = .ok (.ireturn, 1) := by decide +kernel
theorem dX3_hasValue_39 : decode cX3_hasValue 39 = .ok (.aload_n 0, 1) := by decide +kernel
theorem dX3_hasValue_40 : decode cX3_hasValue 40 = .ok (.getfield 11, 3) := by decide +kernel
theorem dX3_hasValue_43 : decode cX3_hasValue 43 = .ok (.iload_n 2, 1) := by decide +kernel
theorem dX3_hasValue_44 : decode cX3_hasValue 44 = .ok (.aload_n 1, 1) := by decide +kernel
theorem dX3_hasValue_45 : decode cX3_hasValue 45 = .ok (.getfield 55, 3) := by decide +kernel
theorem dX3_hasValue_48 : decode cX3_hasValue 48 = .ok (.iastore, 1) := by decide +kernel
theorem dX3_hasValue_49 : decode cX3_hasValue 49 = .ok (.iconst 1, 1) := by decide +kernel
theorem dX3_hasValue_50 : decode cX3_hasValue 50 = .ok (.ireturn, 1) := by decide +kernel
def fP_hasValue (u : Nat) (g : pS) (a2 : Int32) : Option (Bool × pS) :=
  (fT_nextSign u g).bind fun p1 =>
  if p1.1 = (iz 58) then
    (fT_pass u p1.2).bind fun g2 =>
    (fT_hasNumber u g2 (iz 0) (iz 99)).bind fun p3 =>
    if p3.1 = true then
      (fL_within u a2 (Int32.ofNat (tlen 4))).bind fun b4 =>
      if b4 = true then
        (tWr p3.2 4 a2 (p3.2 0 2)).bind fun g5 =>
        some (true, g5)
      else
        some (false, p3.2)
    else
      some (false, p3.2)
  else
    some (false, p1.2)
set_option maxRecDepth 4000 in
theorem jP_hasValue {Γ : nx_G} {M0 : nx_M} {t p : Nat} (hp : t + 4 < p) (u : Nat) (g : pS) (a2 : Int32)   (X : nx_X) (Z : nx_Z) : nx_J Γ X (RX3, cX3_hasValue, 3, (some .boolean), "hasValue", 4) Z (fun r0 : Bool × pS => .inr (some (.int (bz r0.1)), (tW Γ M0 t p r0.2))) (.inl (0, [some (.ref p), some (.ref t), some (.int a2)], [], (tW Γ M0 t p g))) (fP_hasValue u g a2) := by
  unfold fP_hasValue
  refine nx_aload_n rfl dX3_hasValue_0 rfl ?_
  refine nx_callVr [] (fun r => .int r.1) (fun r => (tW Γ M0 t p r.2)) cw_3_35 cv_X5_nextSign (fun r e => cT_nextSign X.2.1 hp e) tW_t rfl rfl (Nat.le_of_ble_eq_true rfl) (Nat.le_of_ble_eq_true rfl) dX3_hasValue_1 rfl (fun p1 => ?_)
  refine nx_bipush (by decide +kernel) dX3_hasValue_4 rfl ?_
  refine nx_icmp_eq (t := 11) dX3_hasValue_6 (by decide) rfl ?_ ?_
  · refine nx_aload_n rfl dX3_hasValue_11 rfl ?_
    refine nx_callVv [] (fun r => (tW Γ M0 t p r)) cw_3_39 cv_X5_pass (fun r e => cT_pass X.2.1 hp e) tW_t rfl rfl (Nat.le_of_ble_eq_true rfl) (Nat.le_of_ble_eq_true rfl) dX3_hasValue_12 rfl (fun g2 => ?_)
    refine nx_aload_n rfl dX3_hasValue_15 rfl ?_
    refine nx_iconst dX3_hasValue_16 rfl ?_
    refine nx_bipush (by decide +kernel) dX3_hasValue_17 rfl ?_
    refine nx_callVr [.int (iz 0), .int (iz 99)] (fun r => .int (bz r.1)) (fun r => (tW Γ M0 t p r.2)) cw_3_52 cv_X5_hasNumber (fun r e => cT_hasNumber X.2.1 hp e) tW_t rfl rfl (Nat.le_of_ble_eq_true rfl) (Nat.le_of_ble_eq_true rfl) dX3_hasValue_19 rfl (fun p3 => ?_)
    refine nx_ifz_eq (t := 37) dX3_hasValue_22 (by decide) rfl ?_ ?_
    · refine nx_iconst dX3_hasValue_37 rfl ?_
      exact nx_zret (b := false) dX3_hasValue_38 rfl rfl
    · refine nx_iload_n rfl dX3_hasValue_25 rfl ?_
      refine nx_aload_n rfl dX3_hasValue_26 rfl ?_
      refine nx_getf fl_3_11 (tW_p hp) rfl dX3_hasValue_27 rfl ?_
      refine t_alen hp 4 (by decide) dX3_hasValue_30 rfl ?_
      refine nx_callSr [.int a2, .int (Int32.ofNat (tlen 4))] (fun r => .int (bz r)) (fun _ => (tW Γ M0 t p p3.2)) cw_3_15 wd_442 (fun r e => cL_within X.2.1  e) rfl rfl (Nat.le_of_ble_eq_true rfl) (Nat.le_of_ble_eq_true rfl) dX3_hasValue_31 rfl (fun b4 => ?_)
      refine nx_ifz_ne (t := 39) dX3_hasValue_34 (by decide) rfl ?_ ?_
      · refine nx_aload_n rfl dX3_hasValue_39 rfl ?_
        refine nx_getf fl_3_11 (tW_p hp) rfl dX3_hasValue_40 rfl ?_
        refine nx_iload_n rfl dX3_hasValue_43 rfl ?_
        refine nx_aload_n rfl dX3_hasValue_44 rfl ?_
        refine nx_getfN fl_3_55 tW_t rfl dX3_hasValue_45 rfl ?_
        refine t_iast hp 4 (by decide) dX3_hasValue_48 rfl (fun g5 => ?_)
        refine nx_iconst dX3_hasValue_49 rfl ?_
        exact nx_zret (b := true) dX3_hasValue_50 rfl rfl
      · refine nx_iconst dX3_hasValue_37 rfl ?_
        exact nx_zret (b := false) dX3_hasValue_38 rfl rfl
  · refine nx_iconst dX3_hasValue_9 rfl ?_
    exact nx_zret (b := false) dX3_hasValue_10 rfl rfl
theorem cP_hasValue (l : Launch) {Γ : nx_G} {M0 : nx_M} {t p : Nat} (hp : t + 4 < p) {u : Nat} {g : pS} {a2 : Int32} {r : Bool × pS}  (h : fP_hasValue u g a2 = some r) : nx_Ct l Γ 4 yX3_hasValue cX3_hasValue 3 (some .boolean) [.ref p, .ref t, .int a2] (tW Γ M0 t p g) (some (.int (bz r.1)), (tW Γ M0 t p r.2)) :=
  nx_ct (out := fun r0 : Bool × pS => (some (.int (bz r0.1)), (tW Γ M0 t p r0.2))) [some (.ref p), some (.ref t), some (.int a2)] pn_RX3 h (Nat.le_of_ble_eq_true rfl) rfl (fun X Z _ => jP_hasValue hp u g a2 X Z)
theorem dX3_hasStep_0 : decode cX3_hasStep 0 = .ok (.iload_n 2, 1) := by decide +kernel
theorem dX3_hasStep_1 : decode cX3_hasStep 1 = .ok (.ifCond .lt 14, 3) := by decide +kernel
theorem dX3_hasStep_4 : decode cX3_hasStep 4 = .ok (.iload_n 2, 1) := by decide +kernel
theorem dX3_hasStep_5 : decode cX3_hasStep 5 = .ok (.iconst 4, 1) := by decide +kernel
theorem dX3_hasStep_6 : decode cX3_hasStep 6 = .ok (.iadd, 1) := by decide +kernel
theorem dX3_hasStep_7 : decode cX3_hasStep 7 = .ok (.aload_n 0, 1) := by decide +kernel
theorem dX3_hasStep_8 : decode cX3_hasStep 8 = .ok (.getfield 11, 3) := by decide +kernel
theorem dX3_hasStep_11 : decode cX3_hasStep 11 = .ok (.arraylength, 1) := by decide +kernel
theorem dX3_hasStep_12 : decode cX3_hasStep 12 = .ok (.if_icmp .le 5, 3) := by decide +kernel
theorem dX3_hasStep_15 : decode cX3_hasStep 15 = .ok (.iconst 0, 1) := by decide +kernel
theorem dX3_hasStep_16 : decode cX3_hasStep 16 = .ok (.ireturn, 1) := by decide +kernel
theorem dX3_hasStep_17 : decode cX3_hasStep 17 = .ok (.aload_n 1, 1) := by decide +kernel
theorem dX3_hasStep_18 : decode cX3_hasStep 18 = .ok (.invokevirtual 35, 3) := by decide +kernel
theorem dX3_hasStep_21 : decode cX3_hasStep 21 = .ok (.invokestatic 42, 3) := by decide +kernel
theorem dX3_hasStep_24 : decode cX3_hasStep 24 = .ok (.istore_n 3, 1) := by decide +kernel
theorem dX3_hasStep_25 : decode cX3_hasStep 25 = .ok (.iload_n 3, 1) := by decide +kernel
theorem dX3_hasStep_26 : decode cX3_hasStep 26 = .ok (.iconst (-1), 1) := by decide +kernel
theorem dX3_hasStep_27 : decode cX3_hasStep 27 = .ok (.if_icmp .ne 5, 3) := by decide +kernel
theorem dX3_hasStep_30 : decode cX3_hasStep 30 = .ok (.iconst 0, 1) := by decide +kernel
theorem dX3_hasStep_31 : decode cX3_hasStep 31 = .ok (.ireturn, 1) := by decide +kernel
theorem dX3_hasStep_32 : decode cX3_hasStep 32 = .ok (.aload_n 1, 1) := by decide +kernel
theorem dX3_hasStep_33 : decode cX3_hasStep 33 = .ok (.invokevirtual 39, 3) := by decide +kernel
theorem dX3_hasStep_36 : decode cX3_hasStep 36 = .ok (.aload_n 0, 1) := by decide +kernel
theorem dX3_hasStep_37 : decode cX3_hasStep 37 = .ok (.getfield 11, 3) := by decide +kernel
theorem dX3_hasStep_40 : decode cX3_hasStep 40 = .ok (.iload_n 2, 1) := by decide +kernel
theorem dX3_hasStep_41 : decode cX3_hasStep 41 = .ok (.iload_n 3, 1) := by decide +kernel
theorem dX3_hasStep_42 : decode cX3_hasStep 42 = .ok (.iastore, 1) := by decide +kernel
theorem dX3_hasStep_43 : decode cX3_hasStep 43 = .ok (.aload_n 0, 1) := by decide +kernel
theorem dX3_hasStep_44 : decode cX3_hasStep 44 = .ok (.getfield 11, 3) := by decide +kernel
theorem dX3_hasStep_47 : decode cX3_hasStep 47 = .ok (.iload_n 2, 1) := by decide +kernel
theorem dX3_hasStep_48 : decode cX3_hasStep 48 = .ok (.iconst 1, 1) := by decide +kernel
theorem dX3_hasStep_49 : decode cX3_hasStep 49 = .ok (.iadd, 1) := by decide +kernel
theorem dX3_hasStep_50 : decode cX3_hasStep 50 = .ok (.iconst (-1), 1) := by decide +kernel
theorem dX3_hasStep_51 : decode cX3_hasStep 51 = .ok (.iastore, 1) := by decide +kernel
theorem dX3_hasStep_52 : decode cX3_hasStep 52 = .ok (.aload_n 0, 1) := by decide +kernel
theorem dX3_hasStep_53 : decode cX3_hasStep 53 = .ok (.getfield 11, 3) := by decide +kernel
theorem dX3_hasStep_56 : decode cX3_hasStep 56 = .ok (.iload_n 2, 1) := by decide +kernel
theorem dX3_hasStep_57 : decode cX3_hasStep 57 = .ok (.iconst 2, 1) := by decide +kernel
theorem dX3_hasStep_58 : decode cX3_hasStep 58 = .ok (.iadd, 1) := by decide +kernel
theorem dX3_hasStep_59 : decode cX3_hasStep 59 = .ok (.iconst (-1), 1) := by decide +kernel
theorem dX3_hasStep_60 : decode cX3_hasStep 60 = .ok (.iastore, 1) := by decide +kernel
theorem dX3_hasStep_61 : decode cX3_hasStep 61 = .ok (.aload_n 0, 1) := by decide +kernel
theorem dX3_hasStep_62 : decode cX3_hasStep 62 = .ok (.getfield 11, 3) := by decide +kernel
theorem dX3_hasStep_65 : decode cX3_hasStep 65 = .ok (.iload_n 2, 1) := by decide +kernel
theorem dX3_hasStep_66 : decode cX3_hasStep 66 = .ok (.iconst 3, 1) := by decide +kernel
theorem dX3_hasStep_67 : decode cX3_hasStep 67 = .ok (.iadd, 1) := by decide +kernel
theorem dX3_hasStep_68 : decode cX3_hasStep 68 = .ok (.iconst (-1), 1) := by decide +kernel
theorem dX3_hasStep_69 : decode cX3_hasStep 69 = .ok (.iastore, 1) := by decide +kernel
theorem dX3_hasStep_70 : decode cX3_hasStep 70 = .ok (.iload_n 3, 1) := by decide +kernel
theorem dX3_hasStep_71 : decode cX3_hasStep 71 = .ok (.iconst 2, 1) := by decide +kernel
theorem dX3_hasStep_72 : decode cX3_hasStep 72 = .ok (.if_icmp .gt 7, 3) := by decide +kernel
theorem dX3_hasStep_75 : decode cX3_hasStep 75 = .ok (.iconst 2, 1) := by decide +kernel
theorem dX3_hasStep_76 : decode cX3_hasStep 76 = .ok (.goto 13, 3) := by decide +kernel
theorem dX3_hasStep_79 : decode cX3_hasStep 79 = .ok (.iload_n 3, 1) := by decide +kernel
theorem dX3_hasStep_80 : decode cX3_hasStep 80 = .ok (.iconst 5, 1) := by decide +kernel
theorem dX3_hasStep_81 : decode cX3_hasStep 81 = .ok (.if_icmp .ne 7, 3) := by decide +kernel
theorem dX3_hasStep_84 : decode cX3_hasStep 84 = .ok (.iconst 0, 1) := by decide +kernel
theorem dX3_hasStep_85 : decode cX3_hasStep 85 = .ok (.goto 4, 3) := by decide +kernel
theorem dX3_hasStep_88 : decode cX3_hasStep 88 = .ok (.iconst 1, 1) := by decide +kernel
theorem dX3_hasStep_89 : decode cX3_hasStep 89 = .ok (.istore 4, 2) := by decide +kernel
theorem dX3_hasStep_91 : decode cX3_hasStep 91 = .ok (.iconst 1, 1) := by decide +kernel
theorem dX3_hasStep_92 : decode cX3_hasStep 92 = .ok (.istore 5, 2) := by decide +kernel
theorem dX3_hasStep_94 : decode cX3_hasStep 94 = .ok (.iload 5, 2) := by decide +kernel
theorem dX3_hasStep_96 : decode cX3_hasStep 96 = .ok (.iload 4, 2) := by decide +kernel
theorem dX3_hasStep_98 : decode cX3_hasStep 98 = .ok (.if_icmp .gt 41, 3) := by decide +kernel
theorem dX3_hasStep_101 : decode cX3_hasStep 101 = .ok (.aload_n 1, 1) := by decide +kernel
theorem dX3_hasStep_102 : decode cX3_hasStep 102 = .ok (.invokevirtual 35, 3) := by decide +kernel
theorem dX3_hasStep_105 : decode cX3_hasStep 105 = .ok (.pop, 1) := by decide +kernel
theorem dX3_hasStep_106 : decode cX3_hasStep 106 = .ok (.aload_n 1, 1) := by decide +kernel
theorem dX3_hasStep_107 : decode cX3_hasStep 107 = .ok (.invokevirtual 46, 3) := by decide +kernel
theorem dX3_hasStep_110 : decode cX3_hasStep 110 = .ok (.iconst (-1), 1) := by decide +kernel
theorem dX3_hasStep_111 : decode cX3_hasStep 111 = .ok (.if_icmp .ne 5, 3) := by decide +kernel
theorem dX3_hasStep_114 : decode cX3_hasStep 114 = .ok (.iconst 0, 1) := by decide +kernel
theorem dX3_hasStep_115 : decode cX3_hasStep 115 = .ok (.ireturn, 1) := by decide +kernel
theorem dX3_hasStep_116 : decode cX3_hasStep 116 = .ok (.aload_n 0, 1) := by decide +kernel
theorem dX3_hasStep_117 : decode cX3_hasStep 117 = .ok (.getfield 11, 3) := by decide +kernel
theorem dX3_hasStep_120 : decode cX3_hasStep 120 = .ok (.iload_n 2, 1) := by decide +kernel
theorem dX3_hasStep_121 : decode cX3_hasStep 121 = .ok (.iload 5, 2) := by decide +kernel
theorem dX3_hasStep_123 : decode cX3_hasStep 123 = .ok (.iadd, 1) := by decide +kernel
theorem dX3_hasStep_124 : decode cX3_hasStep 124 = .ok (.aload_n 1, 1) := by decide +kernel
theorem dX3_hasStep_125 : decode cX3_hasStep 125 = .ok (.invokevirtual 46, 3) := by decide +kernel
theorem dX3_hasStep_128 : decode cX3_hasStep 128 = .ok (.iastore, 1) := by decide +kernel
theorem dX3_hasStep_129 : decode cX3_hasStep 129 = .ok (.aload_n 1, 1) := by decide +kernel
theorem dX3_hasStep_130 : decode cX3_hasStep 130 = .ok (.invokevirtual 39, 3) := by decide +kernel
theorem dX3_hasStep_133 : decode cX3_hasStep 133 = .ok (.iinc 5 1, 3) := by decide +kernel
theorem dX3_hasStep_136 : decode cX3_hasStep 136 = .ok (.goto (-42), 3) := by decide +kernel
theorem dX3_hasStep_139 : decode cX3_hasStep 139 = .ok (.iload_n 3, 1) := by decide +kernel
theorem dX3_hasStep_140 : decode cX3_hasStep 140 = .ok (.iconst 2, 1) := by decide +kernel
theorem dX3_hasStep_141 : decode cX3_hasStep 141 = .ok (.if_icmp .ne 14, 3) := by decide +kernel
theorem dX3_hasStep_144 : decode cX3_hasStep 144 = .ok (.aload_n 0, 1) := by decide +kernel
theorem dX3_hasStep_145 : decode cX3_hasStep 145 = .ok (.aload_n 1, 1) := by decide +kernel
theorem dX3_hasStep_146 : decode cX3_hasStep 146 = .ok (.iload_n 2, 1) := by decide +kernel
theorem dX3_hasStep_147 : decode cX3_hasStep 147 = .ok (.iconst 3, 1) := by decide +kernel
theorem dX3_hasStep_148 : decode cX3_hasStep 148 = .ok (.iadd, 1) := by decide +kernel
theorem dX3_hasStep_149 : decode cX3_hasStep 149 = .ok (.invokevirtual 49, 3) := by decide +kernel
theorem dX3_hasStep_152 : decode cX3_hasStep 152 = .ok (.ifCond .eq 7, 3) := by decide +kernel
theorem dX3_hasStep_155 : decode cX3_hasStep 155 = .ok (.iconst 1, 1) := by decide +kernel
theorem dX3_hasStep_156 : decode cX3_hasStep 156 = .ok (.goto 4, 3) := by decide +kernel
theorem dX3_hasStep_159 : decode cX3_hasStep 159 = .ok (.iconst 0, 1) := by decide +kernel
theorem dX3_hasStep_160 : decode cX3_hasStep 160 = .ok (.ireturn, 1) := by decide +kernel
def fP_hasStep_94 (u : Nat) (a2 : Int32) (s8 : Int32) (s9 : Int32 × pS) : Option ((Int32 × pS) ⊕ ((pS) ⊕ (Bool × pS))) :=
  if s8 < s9.1 then
    some (.inr (.inl s9.2))
  else
    (fT_nextSign u s9.2).bind fun p10 =>
    (fT_digitHere u p10.2).bind fun x11 =>
    if x11 = (iz (-1)) then
      some (.inr (.inr (false, p10.2)))
    else
      (fT_digitHere u p10.2).bind fun x12 =>
      (tWr p10.2 4 (a2 + s9.1) x12).bind fun g13 =>
      (fT_pass u g13).bind fun g14 =>
      some (.inl ((s9.1 + iz 1), g14))
def fP_hasStep (u : Nat) (g : pS) (a2 : Int32) : Option (Bool × pS) :=
  if a2 < iz 0 then
    some (false, g)
  else
    if (a2 + (iz 4)) ≤ (Int32.ofNat (tlen 4)) then
      (fT_nextSign u g).bind fun p1 =>
      (fP_kindOf u p1.1).bind fun x2 =>
      if x2 = (iz (-1)) then
        some (false, p1.2)
      else
        (fT_pass u p1.2).bind fun g3 =>
        (tWr g3 4 a2 x2).bind fun g4 =>
        (tWr g4 4 (a2 + (iz 1)) (iz (-1))).bind fun g5 =>
        (tWr g5 4 (a2 + (iz 2)) (iz (-1))).bind fun g6 =>
        (tWr g6 4 (a2 + (iz 3)) (iz (-1))).bind fun g7 =>
        (if (iz 2) < x2 then
           if x2 = (iz 5) then
             some (iz 0)
           else
             some (iz 1)
         else
           some (iz 2) : Option (Int32)).bind fun s8 =>
        (nx_iter u (fP_hasStep_94 u a2 s8) ((iz 1), g7)).bind (Sum.elim (fun e15 =>
          if x2 = (iz 2) then
            (fP_hasValue u e15 (a2 + (iz 3))).bind fun p16 =>
            if p16.1 = true then
              some (true, p16.2)
            else
              some (false, p16.2)
          else
            some (true, e15))
          (fun r0 => some r0))
    else
      some (false, g)
set_option maxRecDepth 4000 in
theorem jP_hasStep_94 {Γ : nx_G} {M0 : nx_M} {t p : Nat} (hp : t + 4 < p) (u : Nat) (a2 : Int32) (x2 : Int32) (s8 : Int32)   (X : nx_X) (Z : nx_Z) (s9 : Int32 × pS) : nx_J Γ X (RX3, cX3_hasStep, 6, (some .boolean), "hasStep", 5) Z (Sum.elim (fun s9 : Int32 × pS => .inl (94, [some (.ref p), some (.ref t), some (.int a2), some (.int x2), some (.int s8), some (.int s9.1)], [], (tW Γ M0 t p s9.2))) (Sum.elim (fun e15 : pS => .inl (139, [some (.ref p), some (.ref t), some (.int a2), some (.int x2), some (.int s8), none], [], (tW Γ M0 t p e15))) (fun r0 : Bool × pS => .inr (some (.int (bz r0.1)), (tW Γ M0 t p r0.2))))) (.inl (94, [some (.ref p), some (.ref t), some (.int a2), some (.int x2), some (.int s8), some (.int s9.1)], [], (tW Γ M0 t p s9.2))) (fP_hasStep_94 u a2 s8 s9) := by
  unfold fP_hasStep_94
  refine nx_iload rfl dX3_hasStep_94 rfl ?_
  refine nx_iload rfl dX3_hasStep_96 rfl ?_
  refine nx_icmp_gt (t := 139) dX3_hasStep_98 (by decide) rfl ?_ ?_
  · refine nx_weak (ls' := [some (.ref p), some (.ref t), some (.int a2), some (.int x2), some (.int s8), none]) (nx_wk_s (nx_wk_s (nx_wk_s (nx_wk_s (nx_wk_s (nx_wk_n nx_wk_e)))))) ?_
    obtain ⟨_, _⟩ := s9
    exact nx_leaf rfl
  · refine nx_aload_n rfl dX3_hasStep_101 rfl ?_
    refine nx_callVr [] (fun r => .int r.1) (fun r => (tW Γ M0 t p r.2)) cw_3_35 cv_X5_nextSign (fun r e => cT_nextSign X.2.1 hp e) tW_t rfl rfl (Nat.le_of_ble_eq_true rfl) (Nat.le_of_ble_eq_true rfl) dX3_hasStep_102 rfl (fun p10 => ?_)
    refine nx_pop rfl dX3_hasStep_105 rfl ?_
    refine nx_aload_n rfl dX3_hasStep_106 rfl ?_
    refine nx_callVr [] (fun r => .int r) (fun _ => (tW Γ M0 t p p10.2)) cw_3_46 cv_X5_digitHere (fun r e => cT_digitHere X.2.1 hp e) tW_t rfl rfl (Nat.le_of_ble_eq_true rfl) (Nat.le_of_ble_eq_true rfl) dX3_hasStep_107 rfl (fun x11 => ?_)
    refine nx_iconst dX3_hasStep_110 rfl ?_
    refine nx_icmp_ne (t := 116) dX3_hasStep_111 (by decide) rfl ?_ ?_
    · refine nx_aload_n rfl dX3_hasStep_116 rfl ?_
      refine nx_getf fl_3_11 (tW_p hp) rfl dX3_hasStep_117 rfl ?_
      refine nx_iload_n rfl dX3_hasStep_120 rfl ?_
      refine nx_iload rfl dX3_hasStep_121 rfl ?_
      refine nx_iadd dX3_hasStep_123 rfl ?_
      refine nx_aload_n rfl dX3_hasStep_124 rfl ?_
      refine nx_callVr [] (fun r => .int r) (fun _ => (tW Γ M0 t p p10.2)) cw_3_46 cv_X5_digitHere (fun r e => cT_digitHere X.2.1 hp e) tW_t rfl rfl (Nat.le_of_ble_eq_true rfl) (Nat.le_of_ble_eq_true rfl) dX3_hasStep_125 rfl (fun x12 => ?_)
      refine t_iast hp 4 (by decide) dX3_hasStep_128 rfl (fun g13 => ?_)
      refine nx_aload_n rfl dX3_hasStep_129 rfl ?_
      refine nx_callVv [] (fun r => (tW Γ M0 t p r)) cw_3_39 cv_X5_pass (fun r e => cT_pass X.2.1 hp e) tW_t rfl rfl (Nat.le_of_ble_eq_true rfl) (Nat.le_of_ble_eq_true rfl) dX3_hasStep_130 rfl (fun g14 => ?_)
      refine nx_iinc [some (.ref p), some (.ref t), some (.int a2), some (.int x2), some (.int s8), some (.int (s9.1 + iz 1))] dX3_hasStep_133 rfl rfl (Nat.le_of_ble_eq_true rfl) rfl rfl ?_
      refine nx_goto (q := 94) dX3_hasStep_136 (by decide) ?_
      obtain ⟨_, _⟩ := s9
      exact nx_leaf rfl
    · refine nx_iconst dX3_hasStep_114 rfl ?_
      exact nx_zret (b := false) dX3_hasStep_115 rfl rfl
set_option maxRecDepth 4000 in
theorem jP_hasStep {Γ : nx_G} {M0 : nx_M} {t p : Nat} (hp : t + 4 < p) (u : Nat) (g : pS) (a2 : Int32)   (X : nx_X) (Z : nx_Z) : nx_J Γ X (RX3, cX3_hasStep, 6, (some .boolean), "hasStep", 5) Z (fun r0 : Bool × pS => .inr (some (.int (bz r0.1)), (tW Γ M0 t p r0.2))) (.inl (0, [some (.ref p), some (.ref t), some (.int a2), none, none, none], [], (tW Γ M0 t p g))) (fP_hasStep u g a2) := by
  unfold fP_hasStep
  refine nx_iload_n rfl dX3_hasStep_0 rfl ?_
  refine nx_if_lt (t := 15) dX3_hasStep_1 (by decide) rfl ?_ ?_
  · refine nx_iconst dX3_hasStep_15 rfl ?_
    exact nx_zret (b := false) dX3_hasStep_16 rfl rfl
  · refine nx_iload_n rfl dX3_hasStep_4 rfl ?_
    refine nx_iconst dX3_hasStep_5 rfl ?_
    refine nx_iadd dX3_hasStep_6 rfl ?_
    refine nx_aload_n rfl dX3_hasStep_7 rfl ?_
    refine nx_getf fl_3_11 (tW_p hp) rfl dX3_hasStep_8 rfl ?_
    refine t_alen hp 4 (by decide) dX3_hasStep_11 rfl ?_
    refine nx_icmp_le (t := 17) dX3_hasStep_12 (by decide) rfl ?_ ?_
    · refine nx_aload_n rfl dX3_hasStep_17 rfl ?_
      refine nx_callVr [] (fun r => .int r.1) (fun r => (tW Γ M0 t p r.2)) cw_3_35 cv_X5_nextSign (fun r e => cT_nextSign X.2.1 hp e) tW_t rfl rfl (Nat.le_of_ble_eq_true rfl) (Nat.le_of_ble_eq_true rfl) dX3_hasStep_18 rfl (fun p1 => ?_)
      refine nx_callSr [.int p1.1] (fun r => .int r) (fun _ => (tW Γ M0 t p p1.2)) cw_3_42 wd_472 (fun r e => cP_kindOf X.2.1  e) rfl rfl (Nat.le_of_ble_eq_true rfl) (Nat.le_of_ble_eq_true rfl) dX3_hasStep_21 rfl (fun x2 => ?_)
      refine nx_istore_n [some (.ref p), some (.ref t), some (.int a2), some (.int x2), none, none] dX3_hasStep_24 rfl (Nat.le_of_ble_eq_true rfl) rfl rfl ?_
      refine nx_iload_n rfl dX3_hasStep_25 rfl ?_
      refine nx_iconst dX3_hasStep_26 rfl ?_
      refine nx_icmp_ne (t := 32) dX3_hasStep_27 (by decide) rfl ?_ ?_
      · refine nx_aload_n rfl dX3_hasStep_32 rfl ?_
        refine nx_callVv [] (fun r => (tW Γ M0 t p r)) cw_3_39 cv_X5_pass (fun r e => cT_pass X.2.1 hp e) tW_t rfl rfl (Nat.le_of_ble_eq_true rfl) (Nat.le_of_ble_eq_true rfl) dX3_hasStep_33 rfl (fun g3 => ?_)
        refine nx_aload_n rfl dX3_hasStep_36 rfl ?_
        refine nx_getf fl_3_11 (tW_p hp) rfl dX3_hasStep_37 rfl ?_
        refine nx_iload_n rfl dX3_hasStep_40 rfl ?_
        refine nx_iload_n rfl dX3_hasStep_41 rfl ?_
        refine t_iast hp 4 (by decide) dX3_hasStep_42 rfl (fun g4 => ?_)
        refine nx_aload_n rfl dX3_hasStep_43 rfl ?_
        refine nx_getf fl_3_11 (tW_p hp) rfl dX3_hasStep_44 rfl ?_
        refine nx_iload_n rfl dX3_hasStep_47 rfl ?_
        refine nx_iconst dX3_hasStep_48 rfl ?_
        refine nx_iadd dX3_hasStep_49 rfl ?_
        refine nx_iconst dX3_hasStep_50 rfl ?_
        refine t_iast hp 4 (by decide) dX3_hasStep_51 rfl (fun g5 => ?_)
        refine nx_aload_n rfl dX3_hasStep_52 rfl ?_
        refine nx_getf fl_3_11 (tW_p hp) rfl dX3_hasStep_53 rfl ?_
        refine nx_iload_n rfl dX3_hasStep_56 rfl ?_
        refine nx_iconst dX3_hasStep_57 rfl ?_
        refine nx_iadd dX3_hasStep_58 rfl ?_
        refine nx_iconst dX3_hasStep_59 rfl ?_
        refine t_iast hp 4 (by decide) dX3_hasStep_60 rfl (fun g6 => ?_)
        refine nx_aload_n rfl dX3_hasStep_61 rfl ?_
        refine nx_getf fl_3_11 (tW_p hp) rfl dX3_hasStep_62 rfl ?_
        refine nx_iload_n rfl dX3_hasStep_65 rfl ?_
        refine nx_iconst dX3_hasStep_66 rfl ?_
        refine nx_iadd dX3_hasStep_67 rfl ?_
        refine nx_iconst dX3_hasStep_68 rfl ?_
        refine t_iast hp 4 (by decide) dX3_hasStep_69 rfl (fun g7 => ?_)
        refine nx_iload_n rfl dX3_hasStep_70 rfl ?_
        refine nx_iconst dX3_hasStep_71 rfl ?_
        refine nx_seq (C1 := fun s8 : Int32 => .inl (89, [some (.ref p), some (.ref t), some (.int a2), some (.int x2), none, none], [.int s8], (tW Γ M0 t p g7))) ?_ (fun s8 => ?_)
        · refine nx_icmp_gt (t := 79) dX3_hasStep_72 (by decide) rfl ?_ ?_
          · refine nx_iload_n rfl dX3_hasStep_79 rfl ?_
            refine nx_iconst dX3_hasStep_80 rfl ?_
            refine nx_icmp_ne (t := 88) dX3_hasStep_81 (by decide) rfl ?_ ?_
            · refine nx_iconst dX3_hasStep_88 rfl ?_
              exact nx_leaf rfl
            · refine nx_iconst dX3_hasStep_84 rfl ?_
              refine nx_goto (q := 89) dX3_hasStep_85 (by decide) ?_
              exact nx_leaf rfl
          · refine nx_iconst dX3_hasStep_75 rfl ?_
            refine nx_goto (q := 89) dX3_hasStep_76 (by decide) ?_
            exact nx_leaf rfl
        refine nx_istore [some (.ref p), some (.ref t), some (.int a2), some (.int x2), some (.int s8), none] dX3_hasStep_89 rfl (Nat.le_of_ble_eq_true rfl) rfl rfl ?_
        refine nx_iconst dX3_hasStep_91 rfl ?_
        refine nx_istore [some (.ref p), some (.ref t), some (.int a2), some (.int x2), some (.int s8), some (.int (iz 1))] dX3_hasStep_92 rfl (Nat.le_of_ble_eq_true rfl) rfl rfl ?_
        refine nx_seqS (Ca := fun e15 : pS => .inl (139, [some (.ref p), some (.ref t), some (.int a2), some (.int x2), some (.int s8), none], [], (tW Γ M0 t p e15))) (Cb := fun r0 : Bool × pS => .inr (some (.int (bz r0.1)), (tW Γ M0 t p r0.2))) (nx_loop (C1 := fun s9 : Int32 × pS => .inl (94, [some (.ref p), some (.ref t), some (.int a2), some (.int x2), some (.int s8), some (.int s9.1)], [], (tW Γ M0 t p s9.2))) (fun s9 => jP_hasStep_94 hp u a2 x2 s8 X Z s9) ((iz 1), g7)) (fun e15 => ?_) (fun r0 => ?_)
        · refine nx_iload_n rfl dX3_hasStep_139 rfl ?_
          refine nx_iconst dX3_hasStep_140 rfl ?_
          refine nx_icmp_ne (t := 155) dX3_hasStep_141 (by decide) rfl ?_ ?_
          · refine nx_iconst dX3_hasStep_155 rfl ?_
            refine nx_goto (q := 160) dX3_hasStep_156 (by decide) ?_
            exact nx_zret (b := true) dX3_hasStep_160 rfl rfl
          · refine nx_aload_n rfl dX3_hasStep_144 rfl ?_
            refine nx_aload_n rfl dX3_hasStep_145 rfl ?_
            refine nx_iload_n rfl dX3_hasStep_146 rfl ?_
            refine nx_iconst dX3_hasStep_147 rfl ?_
            refine nx_iadd dX3_hasStep_148 rfl ?_
            refine nx_callVr [.ref t, .int (a2 + (iz 3))] (fun r => .int (bz r.1)) (fun r => (tW Γ M0 t p r.2)) cw_3_49 cv_X3_hasValue (fun r e => cP_hasValue X.2.1 hp e) (tW_p hp) rfl rfl (Nat.le_of_ble_eq_true rfl) (Nat.le_of_ble_eq_true rfl) dX3_hasStep_149 rfl (fun p16 => ?_)
            refine nx_ifz_eq (t := 159) dX3_hasStep_152 (by decide) rfl ?_ ?_
            · refine nx_iconst dX3_hasStep_159 rfl ?_
              exact nx_zret (b := false) dX3_hasStep_160 rfl rfl
            · refine nx_iconst dX3_hasStep_155 rfl ?_
              refine nx_goto (q := 160) dX3_hasStep_156 (by decide) ?_
              exact nx_zret (b := true) dX3_hasStep_160 rfl rfl
        · exact nx_leaf rfl
      · refine nx_iconst dX3_hasStep_30 rfl ?_
        exact nx_zret (b := false) dX3_hasStep_31 rfl rfl
    · refine nx_iconst dX3_hasStep_15 rfl ?_
      exact nx_zret (b := false) dX3_hasStep_16 rfl rfl
theorem cP_hasStep (l : Launch) {Γ : nx_G} {M0 : nx_M} {t p : Nat} (hp : t + 4 < p) {u : Nat} {g : pS} {a2 : Int32} {r : Bool × pS}  (h : fP_hasStep u g a2 = some r) : nx_Ct l Γ 5 yX3_hasStep cX3_hasStep 6 (some .boolean) [.ref p, .ref t, .int a2] (tW Γ M0 t p g) (some (.int (bz r.1)), (tW Γ M0 t p r.2)) :=
  nx_ct (out := fun r0 : Bool × pS => (some (.int (bz r0.1)), (tW Γ M0 t p r0.2))) [some (.ref p), some (.ref t), some (.int a2), none, none, none] pn_RX3 h (Nat.le_of_ble_eq_true rfl) rfl (fun X Z _ => jP_hasStep hp u g a2 X Z)
theorem dX3_faultOf_0 : decode cX3_faultOf 0 = .ok (.aload_n 1, 1) := by decide +kernel
theorem dX3_faultOf_1 : decode cX3_faultOf 1 = .ok (.invokevirtual 19, 3) := by decide +kernel
theorem dX3_faultOf_4 : decode cX3_faultOf 4 = .ok (.aload_n 0, 1) := by decide +kernel
theorem dX3_faultOf_5 : decode cX3_faultOf 5 = .ok (.iconst 0, 1) := by decide +kernel
theorem dX3_faultOf_6 : decode cX3_faultOf 6 = .ok (.putfield 24, 3) := by decide +kernel
theorem dX3_faultOf_9 : decode cX3_faultOf 9 = .ok (.iconst 0, 1) := by decide +kernel
theorem dX3_faultOf_10 : decode cX3_faultOf 10 = .ok (.istore_n 2, 1) := by decide +kernel
theorem dX3_faultOf_11 : decode cX3_faultOf 11 = .ok (.iload_n 2, 1) := by decide +kernel
theorem dX3_faultOf_12 : decode cX3_faultOf 12 = .ok (.bipush 16, 2) := by decide +kernel
theorem dX3_faultOf_14 : decode cX3_faultOf 14 = .ok (.if_icmp .ge 68, 3) := by decide +kernel
theorem dX3_faultOf_17 : decode cX3_faultOf 17 = .ok (.aload_n 0, 1) := by decide +kernel
theorem dX3_faultOf_18 : decode cX3_faultOf 18 = .ok (.aload_n 1, 1) := by decide +kernel
theorem dX3_faultOf_19 : decode cX3_faultOf 19 = .ok (.iload_n 2, 1) := by decide +kernel
theorem dX3_faultOf_20 : decode cX3_faultOf 20 = .ok (.iconst 4, 1) := by decide +kernel
theorem dX3_faultOf_21 : decode cX3_faultOf 21 = .ok (.imul, 1) := by decide +kernel
theorem dX3_faultOf_22 : decode cX3_faultOf 22 = .ok (.invokevirtual 28, 3) := by decide +kernel
theorem dX3_faultOf_25 : decode cX3_faultOf 25 = .ok (.ifCond .ne 8, 3) := by decide +kernel
theorem dX3_faultOf_28 : decode cX3_faultOf 28 = .ok (.aload_n 1, 1) := by decide +kernel
theorem dX3_faultOf_29 : decode cX3_faultOf 29 = .ok (.getfield 32, 3) := by decide +kernel
theorem dX3_faultOf_32 : decode cX3_faultOf 32 = .ok (.ireturn, 1) := by decide +kernel
theorem dX3_faultOf_33 : decode cX3_faultOf 33 = .ok (.aload_n 0, 1) := by decide +kernel
theorem dX3_faultOf_34 : decode cX3_faultOf 34 = .ok (.dup, 1) := by decide +kernel
theorem dX3_faultOf_35 : decode cX3_faultOf 35 = .ok (.getfield 24, 3) := by decide +kernel
theorem dX3_faultOf_38 : decode cX3_faultOf 38 = .ok (.iconst 1, 1) := by decide +kernel
theorem dX3_faultOf_39 : decode cX3_faultOf 39 = .ok (.iadd, 1) := by decide +kernel
theorem dX3_faultOf_40 : decode cX3_faultOf 40 = .ok (.putfield 24, 3) := by decide +kernel
theorem dX3_faultOf_43 : decode cX3_faultOf 43 = .ok (.aload_n 1, 1) := by decide +kernel
theorem dX3_faultOf_44 : decode cX3_faultOf 44 = .ok (.invokevirtual 35, 3) := by decide +kernel
theorem dX3_faultOf_47 : decode cX3_faultOf 47 = .ok (.istore_n 3, 1) := by decide +kernel
theorem dX3_faultOf_48 : decode cX3_faultOf 48 = .ok (.iload_n 3, 1) := by decide +kernel
theorem dX3_faultOf_49 : decode cX3_faultOf 49 = .ok (.iconst (-1), 1) := by decide +kernel
theorem dX3_faultOf_50 : decode cX3_faultOf 50 = .ok (.if_icmp .ne 5, 3) := by decide +kernel
theorem dX3_faultOf_53 : decode cX3_faultOf 53 = .ok (.iconst (-1), 1) := by decide +kernel
theorem dX3_faultOf_54 : decode cX3_faultOf 54 = .ok (.ireturn, 1) := by decide +kernel
theorem dX3_faultOf_55 : decode cX3_faultOf 55 = .ok (.iload_n 3, 1) := by decide +kernel
theorem dX3_faultOf_56 : decode cX3_faultOf 56 = .ok (.bipush 59, 2) := by decide +kernel
theorem dX3_faultOf_58 : decode cX3_faultOf 58 = .ok (.if_icmp .ne 9, 3) := by decide +kernel
theorem dX3_faultOf_61 : decode cX3_faultOf 61 = .ok (.iload_n 2, 1) := by decide +kernel
theorem dX3_faultOf_62 : decode cX3_faultOf 62 = .ok (.bipush 15, 2) := by decide +kernel
theorem dX3_faultOf_64 : decode cX3_faultOf 64 = .ok (.if_icmp .ne 8, 3) := by decide +kernel
theorem dX3_faultOf_67 : decode cX3_faultOf 67 = .ok (.aload_n 1, 1) := by decide +kernel
theorem dX3_faultOf_68 : decode cX3_faultOf 68 = .ok (.getfield 32, 3) := by decide +kernel
theorem dX3_faultOf_71 : decode cX3_faultOf 71 = .ok (.ireturn, 1) := by decide +kernel
theorem dX3_faultOf_72 : decode cX3_faultOf 72 = .ok (.aload_n 1, 1) := by decide +kernel
theorem dX3_faultOf_73 : decode cX3_faultOf 73 = .ok (.invokevirtual 39, 3) := by decide +kernel
theorem dX3_faultOf_76 : decode cX3_faultOf 76 = .ok (.iinc 2 1, 3) := by decide +kernel
theorem dX3_faultOf_79 : decode cX3_faultOf 79 = .ok (.goto (-68), 3) := by decide +kernel
theorem dX3_faultOf_82 : decode cX3_faultOf 82 = .ok (.aload_n 1, 1) := by decide +kernel
theorem dX3_faultOf_83 : decode cX3_faultOf 83 = .ok (.getfield 32, 3) := by decide +kernel
theorem dX3_faultOf_86 : decode cX3_faultOf 86 = .ok (.ireturn, 1) := by decide +kernel
def fP_faultOf_11 (u : Nat) (s3 : Int32 × pS) : Option ((Int32 × pS) ⊕ ((pS) ⊕ (Int32 × pS))) :=
  if (iz 16) ≤ s3.1 then
    some (.inr (.inl s3.2))
  else
    (fP_hasStep u s3.2 (s3.1 * (iz 4))).bind fun p4 =>
    if p4.1 = true then
      (some (tFs p4.2 5 ((p4.2 0 5) + (iz 1)))).bind fun g5 =>
      (fT_nextSign u g5).bind fun p6 =>
      if p6.1 = (iz (-1)) then
        some (.inr (.inr ((iz (-1)), p6.2)))
      else
        if p6.1 = (iz 59) then
          if s3.1 = (iz 15) then
            some (.inr (.inr ((p6.2 0 1), p6.2)))
          else
            (fT_pass u p6.2).bind fun g7 =>
            some (.inl ((s3.1 + iz 1), g7))
        else
          some (.inr (.inr ((p6.2 0 1), p6.2)))
    else
      some (.inr (.inr ((p4.2 0 1), p4.2)))
def fP_faultOf (u : Nat) (g : pS) : Option (Int32 × pS) :=
  (fT_rewind u g).bind fun g1 =>
  (some (tFs g1 5 (iz 0))).bind fun g2 =>
  (nx_iter u (fP_faultOf_11 u) ((iz 0), g2)).bind (Sum.elim (fun e8 =>
    some ((e8 0 1), e8))
    (fun r0 => some r0))
set_option maxRecDepth 4000 in
theorem jP_faultOf_11 {Γ : nx_G} {M0 : nx_M} {t p : Nat} (hp : t + 4 < p) (u : Nat)   (X : nx_X) (Z : nx_Z) (s3 : Int32 × pS) : nx_J Γ X (RX3, cX3_faultOf, 4, (some .int), "faultOf", 6) Z (Sum.elim (fun s3 : Int32 × pS => .inl (11, [some (.ref p), some (.ref t), some (.int s3.1), none], [], (tW Γ M0 t p s3.2))) (Sum.elim (fun e8 : pS => .inl (82, [some (.ref p), some (.ref t), none, none], [], (tW Γ M0 t p e8))) (fun r0 : Int32 × pS => .inr (some (.int r0.1), (tW Γ M0 t p r0.2))))) (.inl (11, [some (.ref p), some (.ref t), some (.int s3.1), none], [], (tW Γ M0 t p s3.2))) (fP_faultOf_11 u s3) := by
  unfold fP_faultOf_11
  refine nx_iload_n rfl dX3_faultOf_11 rfl ?_
  refine nx_bipush (by decide +kernel) dX3_faultOf_12 rfl ?_
  refine nx_icmp_ge (t := 82) dX3_faultOf_14 (by decide) rfl ?_ ?_
  · refine nx_weak (ls' := [some (.ref p), some (.ref t), none, none]) (nx_wk_s (nx_wk_s (nx_wk_n (nx_wk_n nx_wk_e)))) ?_
    obtain ⟨_, _⟩ := s3
    exact nx_leaf rfl
  · refine nx_aload_n rfl dX3_faultOf_17 rfl ?_
    refine nx_aload_n rfl dX3_faultOf_18 rfl ?_
    refine nx_iload_n rfl dX3_faultOf_19 rfl ?_
    refine nx_iconst dX3_faultOf_20 rfl ?_
    refine nx_imul dX3_faultOf_21 rfl ?_
    refine nx_callVr [.ref t, .int (s3.1 * (iz 4))] (fun r => .int (bz r.1)) (fun r => (tW Γ M0 t p r.2)) cw_3_28 cv_X3_hasStep (fun r e => cP_hasStep X.2.1 hp e) (tW_p hp) rfl rfl (Nat.le_of_ble_eq_true rfl) (Nat.le_of_ble_eq_true rfl) dX3_faultOf_22 rfl (fun p4 => ?_)
    refine nx_ifz_ne (t := 33) dX3_faultOf_25 (by decide) rfl ?_ ?_
    · refine nx_aload_n rfl dX3_faultOf_33 rfl ?_
      refine nx_dup rfl dX3_faultOf_34 rfl ?_
      refine nx_getf fl_3_24 (tW_p hp) rfl dX3_faultOf_35 rfl ?_
      refine nx_iconst dX3_faultOf_38 rfl ?_
      refine nx_iadd dX3_faultOf_39 rfl ?_
      refine t_put (k := 5) (Or.inl fl_3_24) ft_3_1 (tW_p hp) rfl rfl (Nat.le_of_ble_eq_true rfl) (tW_fld hp p _ (Or.inr (Or.inr ⟨rfl, rfl, rfl⟩))) dX3_faultOf_40 rfl (fun g5 => ?_)
      refine nx_aload_n rfl dX3_faultOf_43 rfl ?_
      refine nx_callVr [] (fun r => .int r.1) (fun r => (tW Γ M0 t p r.2)) cw_3_35 cv_X5_nextSign (fun r e => cT_nextSign X.2.1 hp e) tW_t rfl rfl (Nat.le_of_ble_eq_true rfl) (Nat.le_of_ble_eq_true rfl) dX3_faultOf_44 rfl (fun p6 => ?_)
      refine nx_istore_n [some (.ref p), some (.ref t), some (.int s3.1), some (.int p6.1)] dX3_faultOf_47 rfl (Nat.le_of_ble_eq_true rfl) rfl rfl ?_
      refine nx_iload_n rfl dX3_faultOf_48 rfl ?_
      refine nx_iconst dX3_faultOf_49 rfl ?_
      refine nx_icmp_ne (t := 55) dX3_faultOf_50 (by decide) rfl ?_ ?_
      · refine nx_iload_n rfl dX3_faultOf_55 rfl ?_
        refine nx_bipush (by decide +kernel) dX3_faultOf_56 rfl ?_
        refine nx_icmp_ne (t := 67) dX3_faultOf_58 (by decide) rfl ?_ ?_
        · refine nx_aload_n rfl dX3_faultOf_67 rfl ?_
          refine nx_getfN fl_3_32 tW_t rfl dX3_faultOf_68 rfl ?_
          exact nx_iret dX3_faultOf_71 rfl rfl
        · refine nx_iload_n rfl dX3_faultOf_61 rfl ?_
          refine nx_bipush (by decide +kernel) dX3_faultOf_62 rfl ?_
          refine nx_icmp_ne (t := 72) dX3_faultOf_64 (by decide) rfl ?_ ?_
          · refine nx_aload_n rfl dX3_faultOf_72 rfl ?_
            refine nx_callVv [] (fun r => (tW Γ M0 t p r)) cw_3_39 cv_X5_pass (fun r e => cT_pass X.2.1 hp e) tW_t rfl rfl (Nat.le_of_ble_eq_true rfl) (Nat.le_of_ble_eq_true rfl) dX3_faultOf_73 rfl (fun g7 => ?_)
            refine nx_iinc [some (.ref p), some (.ref t), some (.int (s3.1 + iz 1)), some (.int p6.1)] dX3_faultOf_76 rfl rfl (Nat.le_of_ble_eq_true rfl) rfl rfl ?_
            refine nx_goto (q := 11) dX3_faultOf_79 (by decide) ?_
            refine nx_weak (ls' := [some (.ref p), some (.ref t), some (.int (s3.1 + iz 1)), none]) (nx_wk_s (nx_wk_s (nx_wk_s (nx_wk_n nx_wk_e)))) ?_
            obtain ⟨_, _⟩ := s3
            exact nx_leaf rfl
          · refine nx_aload_n rfl dX3_faultOf_67 rfl ?_
            refine nx_getfN fl_3_32 tW_t rfl dX3_faultOf_68 rfl ?_
            exact nx_iret dX3_faultOf_71 rfl rfl
      · refine nx_iconst dX3_faultOf_53 rfl ?_
        exact nx_iret dX3_faultOf_54 rfl rfl
    · refine nx_aload_n rfl dX3_faultOf_28 rfl ?_
      refine nx_getfN fl_3_32 tW_t rfl dX3_faultOf_29 rfl ?_
      exact nx_iret dX3_faultOf_32 rfl rfl
set_option maxRecDepth 4000 in
theorem jP_faultOf {Γ : nx_G} {M0 : nx_M} {t p : Nat} (hp : t + 4 < p) (u : Nat) (g : pS)   (X : nx_X) (Z : nx_Z) : nx_J Γ X (RX3, cX3_faultOf, 4, (some .int), "faultOf", 6) Z (fun r0 : Int32 × pS => .inr (some (.int r0.1), (tW Γ M0 t p r0.2))) (.inl (0, [some (.ref p), some (.ref t), none, none], [], (tW Γ M0 t p g))) (fP_faultOf u g) := by
  unfold fP_faultOf
  refine nx_aload_n rfl dX3_faultOf_0 rfl ?_
  refine nx_callVv [] (fun r => (tW Γ M0 t p r)) cw_3_19 cv_X5_rewind (fun r e => cT_rewind X.2.1 hp e) tW_t rfl rfl (Nat.le_of_ble_eq_true rfl) (Nat.le_of_ble_eq_true rfl) dX3_faultOf_1 rfl (fun g1 => ?_)
  refine nx_aload_n rfl dX3_faultOf_4 rfl ?_
  refine nx_iconst dX3_faultOf_5 rfl ?_
  refine t_put (k := 5) (Or.inl fl_3_24) ft_3_1 (tW_p hp) rfl rfl (Nat.le_of_ble_eq_true rfl) (tW_fld hp p _ (Or.inr (Or.inr ⟨rfl, rfl, rfl⟩))) dX3_faultOf_6 rfl (fun g2 => ?_)
  refine nx_iconst dX3_faultOf_9 rfl ?_
  refine nx_istore_n [some (.ref p), some (.ref t), some (.int (iz 0)), none] dX3_faultOf_10 rfl (Nat.le_of_ble_eq_true rfl) rfl rfl ?_
  refine nx_seqS (Ca := fun e8 : pS => .inl (82, [some (.ref p), some (.ref t), none, none], [], (tW Γ M0 t p e8))) (Cb := fun r0 : Int32 × pS => .inr (some (.int r0.1), (tW Γ M0 t p r0.2))) (nx_loop (C1 := fun s3 : Int32 × pS => .inl (11, [some (.ref p), some (.ref t), some (.int s3.1), none], [], (tW Γ M0 t p s3.2))) (fun s3 => jP_faultOf_11 hp u X Z s3) ((iz 0), g2)) (fun e8 => ?_) (fun r0 => ?_)
  · refine nx_aload_n rfl dX3_faultOf_82 rfl ?_
    refine nx_getfN fl_3_32 tW_t rfl dX3_faultOf_83 rfl ?_
    exact nx_iret dX3_faultOf_86 rfl rfl
  · exact nx_leaf rfl
theorem cP_faultOf (l : Launch) {Γ : nx_G} {M0 : nx_M} {t p : Nat} (hp : t + 4 < p) {u : Nat} {g : pS} {r : Int32 × pS}  (h : fP_faultOf u g = some r) : nx_Ct l Γ 6 yX3_faultOf cX3_faultOf 4 (some .int) [.ref p, .ref t] (tW Γ M0 t p g) (some (.int r.1), (tW Γ M0 t p r.2)) :=
  nx_ct (out := fun r0 : Int32 × pS => (some (.int r0.1), (tW Γ M0 t p r0.2))) [some (.ref p), some (.ref t), none, none] pn_RX3 h (Nat.le_of_ble_eq_true rfl) rfl (fun X Z _ => jP_faultOf hp u g X Z)
theorem dX4_reset_0 : decode cX4_reset 0 = .ok (.iconst 0, 1) := by decide +kernel
theorem dX4_reset_1 : decode cX4_reset 1 = .ok (.istore_n 1, 1) := by decide +kernel
theorem dX4_reset_2 : decode cX4_reset 2 = .ok (.iload_n 1, 1) := by decide +kernel
theorem dX4_reset_3 : decode cX4_reset 3 = .ok (.iconst 3, 1) := by decide +kernel
theorem dX4_reset_4 : decode cX4_reset 4 = .ok (.if_icmp .ge 20, 3) := by decide +kernel
theorem dX4_reset_7 : decode cX4_reset 7 = .ok (.aload_n 0, 1) := by decide +kernel
theorem dX4_reset_8 : decode cX4_reset 8 = .ok (.getfield 11, 3) := by decide +kernel
theorem dX4_reset_11 : decode cX4_reset 11 = .ok (.iload_n 1, 1) := by decide +kernel
theorem dX4_reset_12 : decode cX4_reset 12 = .ok (.getstatic 18, 3) := by decide +kernel
theorem dX4_reset_15 : decode cX4_reset 15 = .ok (.iload_n 1, 1) := by decide +kernel
theorem dX4_reset_16 : decode cX4_reset 16 = .ok (.iaload, 1) := by decide +kernel
theorem dX4_reset_17 : decode cX4_reset 17 = .ok (.iastore, 1) := by decide +kernel
theorem dX4_reset_18 : decode cX4_reset 18 = .ok (.iinc 1 1, 3) := by decide +kernel
theorem dX4_reset_21 : decode cX4_reset 21 = .ok (.goto (-19), 3) := by decide +kernel
theorem dX4_reset_24 : decode cX4_reset 24 = .ok (.aload_n 0, 1) := by decide +kernel
theorem dX4_reset_25 : decode cX4_reset 25 = .ok (.iconst 0, 1) := by decide +kernel
theorem dX4_reset_26 : decode cX4_reset 26 = .ok (.putfield 21, 3) := by decide +kernel
theorem dX4_reset_29 : decode cX4_reset 29 = .ok (.aload_n 0, 1) := by decide +kernel
theorem dX4_reset_30 : decode cX4_reset 30 = .ok (.iconst 0, 1) := by decide +kernel
theorem dX4_reset_31 : decode cX4_reset 31 = .ok (.putfield 25, 3) := by decide +kernel
theorem dX4_reset_34 : decode cX4_reset 34 = .ok (.return_, 1) := by decide +kernel
def fT_reset_2  (s1 : Int32 × pS) : Option ((Int32 × pS) ⊕ (pS)) :=
  if (iz 3) ≤ s1.1 then
    some (.inr s1.2)
  else
    (nx_rd 3 (nx_sv 3) s1.1).bind fun x2 =>
    (tWr s1.2 2 s1.1 x2).bind fun g3 =>
    some (.inl ((s1.1 + iz 1), g3))
def fT_reset (u : Nat) (g : pS) : Option (pS) :=
  (nx_iter u (fT_reset_2) ((iz 0), g)).bind fun e4 =>
  (some (tFs e4 3 (iz 0))).bind fun g5 =>
  (some (tFs g5 4 (iz 0))).bind fun g6 =>
  some g6
set_option maxRecDepth 4000 in
theorem jT_reset_2 {Γ : nx_G} {M0 : nx_M} {t p : Nat} (hp : t + 4 < p)    (X : nx_X) (Z : nx_Z) (s1 : Int32 × pS) : nx_J Γ X (RX4, cX4_reset, 2, none, "reset", 1) Z (Sum.elim (fun s1 : Int32 × pS => .inl (2, [some (.ref (t + 2)), some (.int s1.1)], [], (tW Γ M0 t p s1.2))) (fun e4 : pS => .inl (24, [some (.ref (t + 2)), none], [], (tW Γ M0 t p e4)))) (.inl (2, [some (.ref (t + 2)), some (.int s1.1)], [], (tW Γ M0 t p s1.2))) (fT_reset_2 s1) := by
  unfold fT_reset_2
  refine nx_iload_n rfl dX4_reset_2 rfl ?_
  refine nx_iconst dX4_reset_3 rfl ?_
  refine nx_icmp_ge (t := 24) dX4_reset_4 (by decide) rfl ?_ ?_
  · refine nx_weak (ls' := [some (.ref (t + 2)), none]) (nx_wk_s (nx_wk_n nx_wk_e)) ?_
    obtain ⟨_, _⟩ := s1
    exact nx_leaf rfl
  · refine nx_aload_n rfl dX4_reset_7 rfl ?_
    refine nx_getf fl_4_11 tW_s rfl dX4_reset_8 rfl ?_
    refine nx_iload_n rfl dX4_reset_11 rfl ?_
    refine nx_gets (j := 3) (by decide) wd_410 dX4_reset_12 rfl ?_
    refine nx_iload_n rfl dX4_reset_15 rfl ?_
    refine nx_sald (j := 3) (by decide) dX4_reset_16 rfl (fun x2 => ?_)
    refine t_iast hp 2 (by decide) dX4_reset_17 rfl (fun g3 => ?_)
    refine nx_iinc [some (.ref (t + 2)), some (.int (s1.1 + iz 1))] dX4_reset_18 rfl rfl (Nat.le_of_ble_eq_true rfl) rfl rfl ?_
    refine nx_goto (q := 2) dX4_reset_21 (by decide) ?_
    obtain ⟨_, _⟩ := s1
    exact nx_leaf rfl
set_option maxRecDepth 4000 in
theorem jT_reset {Γ : nx_G} {M0 : nx_M} {t p : Nat} (hp : t + 4 < p) (u : Nat) (g : pS)   (X : nx_X) (Z : nx_Z) : nx_J Γ X (RX4, cX4_reset, 2, none, "reset", 1) Z (fun r0 : pS => .inr (none, (tW Γ M0 t p r0))) (.inl (0, [some (.ref (t + 2)), none], [], (tW Γ M0 t p g))) (fT_reset u g) := by
  unfold fT_reset
  refine nx_iconst dX4_reset_0 rfl ?_
  refine nx_istore_n [some (.ref (t + 2)), some (.int (iz 0))] dX4_reset_1 rfl (Nat.le_of_ble_eq_true rfl) rfl rfl ?_
  refine nx_seq (C1 := fun e4 : pS => .inl (24, [some (.ref (t + 2)), none], [], (tW Γ M0 t p e4))) (nx_loop (C1 := fun s1 : Int32 × pS => .inl (2, [some (.ref (t + 2)), some (.int s1.1)], [], (tW Γ M0 t p s1.2))) (fun s1 => jT_reset_2 hp X Z s1) ((iz 0), g)) (fun e4 => ?_)
  refine nx_aload_n rfl dX4_reset_24 rfl ?_
  refine nx_iconst dX4_reset_25 rfl ?_
  refine t_put (k := 3) (Or.inl fl_4_21) ft_4_2 tW_s rfl rfl (Nat.le_of_ble_eq_true rfl) (tW_fld hp (t + 2) _ (Or.inr (Or.inl ⟨by decide, rfl, rfl⟩))) dX4_reset_26 rfl (fun g5 => ?_)
  refine nx_aload_n rfl dX4_reset_29 rfl ?_
  refine nx_iconst dX4_reset_30 rfl ?_
  refine t_put (k := 4) (Or.inl fl_4_25) ft_4_3 tW_s (by decide +kernel) (by decide +kernel) (Nat.le_of_ble_eq_true rfl) (tW_fld hp (t + 2) _ (Or.inr (Or.inl ⟨by decide, rfl, rfl⟩))) dX4_reset_31 rfl (fun g6 => ?_)
  exact nx_vret dX4_reset_34 rfl rfl
theorem cT_reset (l : Launch) {Γ : nx_G} {M0 : nx_M} {t p : Nat} (hp : t + 4 < p) {u : Nat} {g : pS} {r : pS}  (h : fT_reset u g = some r) : nx_Ct l Γ 1 yX4_reset cX4_reset 2 none [.ref (t + 2)] (tW Γ M0 t p g) (none, (tW Γ M0 t p r)) :=
  nx_ct (out := fun r0 : pS => (none, (tW Γ M0 t p r0))) [some (.ref (t + 2)), none] pn_RX4 h (Nat.le_of_ble_eq_true rfl) rfl (fun X Z _ => jT_reset hp u g X Z)
theorem dX4_ruleBy_0 : decode cX4_ruleBy 0 = .ok (.iconst 0, 1) := by decide +kernel
theorem dX4_ruleBy_1 : decode cX4_ruleBy 1 = .ok (.istore_n 1, 1) := by decide +kernel
theorem dX4_ruleBy_2 : decode cX4_ruleBy 2 = .ok (.iload_n 1, 1) := by decide +kernel
theorem dX4_ruleBy_3 : decode cX4_ruleBy 3 = .ok (.iconst 3, 1) := by decide +kernel
theorem dX4_ruleBy_4 : decode cX4_ruleBy 4 = .ok (.if_icmp .ge 20, 3) := by decide +kernel
theorem dX4_ruleBy_7 : decode cX4_ruleBy 7 = .ok (.getstatic 80, 3) := by decide +kernel
theorem dX4_ruleBy_10 : decode cX4_ruleBy 10 = .ok (.iload_n 1, 1) := by decide +kernel
theorem dX4_ruleBy_11 : decode cX4_ruleBy 11 = .ok (.iaload, 1) := by decide +kernel
theorem dX4_ruleBy_12 : decode cX4_ruleBy 12 = .ok (.iload_n 0, 1) := by decide +kernel
theorem dX4_ruleBy_13 : decode cX4_ruleBy 13 = .ok (.if_icmp .ne 5, 3) := by decide +kernel
theorem dX4_ruleBy_16 : decode cX4_ruleBy 16 = .ok (.iload_n 1, 1) := by decide +kernel
theorem dX4_ruleBy_17 : decode cX4_ruleBy 17 = .ok (.ireturn, 1) := by decide +kernel
theorem dX4_ruleBy_18 : decode cX4_ruleBy 18 = .ok (.iinc 1 1, 3) := by decide +kernel
theorem dX4_ruleBy_21 : decode cX4_ruleBy 21 = .ok (.goto (-19), 3) := by decide +kernel
theorem dX4_ruleBy_24 : decode cX4_ruleBy 24 = .ok (.iconst (-1), 1) := by decide +kernel
theorem dX4_ruleBy_25 : decode cX4_ruleBy 25 = .ok (.ireturn, 1) := by decide +kernel
def fT_ruleBy_2 (a1 : Int32) (s1 : Int32) : Option ((Int32) ⊕ ((Unit) ⊕ (Int32))) :=
  if (iz 3) ≤ s1 then
    some (.inr (.inl ()))
  else
    (nx_rd 3 (nx_sv 0) s1).bind fun x2 =>
    if x2 = a1 then
      some (.inr (.inr s1))
    else
      some (.inl (s1 + iz 1))
def fT_ruleBy (u : Nat) (a1 : Int32) : Option (Int32) :=
  (nx_iter u (fT_ruleBy_2 a1) (iz 0)).bind (Sum.elim (fun e3 =>
    some (iz (-1)))
    (fun r0 => some r0))
set_option maxRecDepth 4000 in
theorem jT_ruleBy_2 {Γ : nx_G} {M : nx_M} (a1 : Int32)   (X : nx_X) (Z : nx_Z) (s1 : Int32) : nx_J Γ X (RX4, cX4_ruleBy, 2, (some .int), "ruleBy", 1) Z (Sum.elim (fun s1 : Int32 => .inl (2, [some (.int a1), some (.int s1)], [], M)) (Sum.elim (fun e3 : Unit => .inl (24, [some (.int a1), none], [], M)) (fun r0 : Int32 => .inr (some (.int r0), M)))) (.inl (2, [some (.int a1), some (.int s1)], [], M)) (fT_ruleBy_2 a1 s1) := by
  unfold fT_ruleBy_2
  refine nx_iload_n rfl dX4_ruleBy_2 rfl ?_
  refine nx_iconst dX4_ruleBy_3 rfl ?_
  refine nx_icmp_ge (t := 24) dX4_ruleBy_4 (by decide) rfl ?_ ?_
  · refine nx_weak (ls' := [some (.int a1), none]) (nx_wk_s (nx_wk_n nx_wk_e)) ?_
    exact nx_leaf rfl
  · refine nx_gets (j := 0) (by decide) wd_439 dX4_ruleBy_7 rfl ?_
    refine nx_iload_n rfl dX4_ruleBy_10 rfl ?_
    refine nx_sald (j := 0) (by decide) dX4_ruleBy_11 rfl (fun x2 => ?_)
    refine nx_iload_n rfl dX4_ruleBy_12 rfl ?_
    refine nx_icmp_ne (t := 18) dX4_ruleBy_13 (by decide) rfl ?_ ?_
    · refine nx_iinc [some (.int a1), some (.int (s1 + iz 1))] dX4_ruleBy_18 rfl rfl (Nat.le_of_ble_eq_true rfl) rfl rfl ?_
      refine nx_goto (q := 2) dX4_ruleBy_21 (by decide) ?_
      exact nx_leaf rfl
    · refine nx_iload_n rfl dX4_ruleBy_16 rfl ?_
      exact nx_iret dX4_ruleBy_17 rfl rfl
set_option maxRecDepth 4000 in
theorem jT_ruleBy {Γ : nx_G} {M : nx_M} (u : Nat) (a1 : Int32)   (X : nx_X) (Z : nx_Z) : nx_J Γ X (RX4, cX4_ruleBy, 2, (some .int), "ruleBy", 1) Z (fun r0 : Int32 => .inr (some (.int r0), M)) (.inl (0, [some (.int a1), none], [], M)) (fT_ruleBy u a1) := by
  unfold fT_ruleBy
  refine nx_iconst dX4_ruleBy_0 rfl ?_
  refine nx_istore_n [some (.int a1), some (.int (iz 0))] dX4_ruleBy_1 rfl (Nat.le_of_ble_eq_true rfl) rfl rfl ?_
  refine nx_seqS (Ca := fun e3 : Unit => .inl (24, [some (.int a1), none], [], M)) (Cb := fun r0 : Int32 => .inr (some (.int r0), M)) (nx_loop (C1 := fun s1 : Int32 => .inl (2, [some (.int a1), some (.int s1)], [], M)) (fun s1 => jT_ruleBy_2  a1 X Z s1) (iz 0)) (fun e3 => ?_) (fun r0 => ?_)
  · refine nx_iconst dX4_ruleBy_24 rfl ?_
    exact nx_iret dX4_ruleBy_25 rfl rfl
  · exact nx_leaf rfl
theorem cT_ruleBy (l : Launch) {Γ : nx_G} {M : nx_M} {u : Nat} {a1 : Int32} {r : Int32}  (h : fT_ruleBy u a1 = some r) : nx_Ct l Γ 1 yX4_ruleBy cX4_ruleBy 2 (some .int) [.int a1] M (some (.int r), M) :=
  nx_ct (out := fun r0 : Int32 => (some (.int r0), M)) [some (.int a1), none] pn_RX4 h (Nat.le_of_ble_eq_true rfl) rfl (fun X Z _ => jT_ruleBy  u a1 X Z)
theorem dX4_hasRuleItems_0 : decode cX4_hasRuleItems 0 = .ok (.iconst 0, 1) := by decide +kernel
theorem dX4_hasRuleItems_1 : decode cX4_hasRuleItems 1 = .ok (.istore_n 2, 1) := by decide +kernel
theorem dX4_hasRuleItems_2 : decode cX4_hasRuleItems 2 = .ok (.iconst 0, 1) := by decide +kernel
theorem dX4_hasRuleItems_3 : decode cX4_hasRuleItems 3 = .ok (.istore_n 3, 1) := by decide +kernel
theorem dX4_hasRuleItems_4 : decode cX4_hasRuleItems 4 = .ok (.iload_n 3, 1) := by decide +kernel
theorem dX4_hasRuleItems_5 : decode cX4_hasRuleItems 5 = .ok (.iconst 3, 1) := by decide +kernel
theorem dX4_hasRuleItems_6 : decode cX4_hasRuleItems 6 = .ok (.if_icmp .ge 82, 3) := by decide +kernel
theorem dX4_hasRuleItems_9 : decode cX4_hasRuleItems 9 = .ok (.aload_n 1, 1) := by decide +kernel
theorem dX4_hasRuleItems_10 : decode cX4_hasRuleItems 10 = .ok (.invokevirtual 44, 3) := by decide +kernel
theorem dX4_hasRuleItems_13 : decode cX4_hasRuleItems 13 = .ok (.invokestatic 60, 3) := by decide +kernel
theorem dX4_hasRuleItems_16 : decode cX4_hasRuleItems 16 = .ok (.istore 4, 2) := by decide +kernel
theorem dX4_hasRuleItems_18 : decode cX4_hasRuleItems 18 = .ok (.iload 4, 2) := by decide +kernel
theorem dX4_hasRuleItems_20 : decode cX4_hasRuleItems 20 = .ok (.iconst 3, 1) := by decide +kernel
theorem dX4_hasRuleItems_21 : decode cX4_hasRuleItems 21 = .ok (.invokestatic 64, 3) := by decide +kernel
theorem dX4_hasRuleItems_24 : decode cX4_hasRuleItems 24 = .ok (.ifCond .eq 13, 3) := by decide +kernel
theorem dX4_hasRuleItems_27 : decode cX4_hasRuleItems 27 = .ok (.iload_n 2, 1) := by decide +kernel
theorem dX4_hasRuleItems_28 : decode cX4_hasRuleItems 28 = .ok (.iload 4, 2) := by decide +kernel
theorem dX4_hasRuleItems_30 : decode cX4_hasRuleItems 30 = .ok (.ishr, 1) := by decide +kernel
theorem dX4_hasRuleItems_31 : decode cX4_hasRuleItems 31 = .ok (.iconst 1, 1) := by decide +kernel
theorem dX4_hasRuleItems_32 : decode cX4_hasRuleItems 32 = .ok (.iand, 1) := by decide +kernel
theorem dX4_hasRuleItems_33 : decode cX4_hasRuleItems 33 = .ok (.iconst 1, 1) := by decide +kernel
theorem dX4_hasRuleItems_34 : decode cX4_hasRuleItems 34 = .ok (.if_icmp .ne 5, 3) := by decide +kernel
theorem dX4_hasRuleItems_37 : decode cX4_hasRuleItems 37 = .ok (.iconst 1, 1) := by decide +kernel
theorem dX4_hasRuleItems_38 : decode cX4_hasRuleItems 38 = .ok (.ireturn, 1) := by decide +kernel
theorem dX4_hasRuleItems_39 : decode cX4_hasRuleItems 39 = .ok (.iload_n 2, 1) := by decide +kernel
theorem dX4_hasRuleItems_40 : decode cX4_hasRuleItems 40 = .ok (.iconst 1, 1) := by decide +kernel
theorem dX4_hasRuleItems_41 : decode cX4_hasRuleItems 41 = .ok (.iload 4, 2) := by decide +kernel
theorem dX4_hasRuleItems_43 : decode cX4_hasRuleItems 43 = .ok (.ishl, 1) := by decide +kernel
theorem dX4_hasRuleItems_44 : decode cX4_hasRuleItems 44 = .ok (.ior, 1) := by decide +kernel
theorem dX4_hasRuleItems_45 : decode cX4_hasRuleItems 45 = .ok (.istore_n 2, 1) := by decide +kernel
theorem dX4_hasRuleItems_46 : decode cX4_hasRuleItems 46 = .ok (.aload_n 1, 1) := by decide +kernel
theorem dX4_hasRuleItems_47 : decode cX4_hasRuleItems 47 = .ok (.invokevirtual 51, 3) := by decide +kernel
theorem dX4_hasRuleItems_50 : decode cX4_hasRuleItems 50 = .ok (.aload_n 1, 1) := by decide +kernel
theorem dX4_hasRuleItems_51 : decode cX4_hasRuleItems 51 = .ok (.getstatic 68, 3) := by decide +kernel
theorem dX4_hasRuleItems_54 : decode cX4_hasRuleItems 54 = .ok (.iload 4, 2) := by decide +kernel
theorem dX4_hasRuleItems_56 : decode cX4_hasRuleItems 56 = .ok (.iaload, 1) := by decide +kernel
theorem dX4_hasRuleItems_57 : decode cX4_hasRuleItems 57 = .ok (.getstatic 71, 3) := by decide +kernel
theorem dX4_hasRuleItems_60 : decode cX4_hasRuleItems 60 = .ok (.iload 4, 2) := by decide +kernel
theorem dX4_hasRuleItems_62 : decode cX4_hasRuleItems 62 = .ok (.iaload, 1) := by decide +kernel
theorem dX4_hasRuleItems_63 : decode cX4_hasRuleItems 63 = .ok (.invokevirtual 74, 3) := by decide +kernel
theorem dX4_hasRuleItems_66 : decode cX4_hasRuleItems 66 = .ok (.ifCond .ne 5, 3) := by decide +kernel
theorem dX4_hasRuleItems_69 : decode cX4_hasRuleItems 69 = .ok (.iconst 0, 1) := by decide +kernel
theorem dX4_hasRuleItems_70 : decode cX4_hasRuleItems 70 = .ok (.ireturn, 1) := by decide +kernel
theorem dX4_hasRuleItems_71 : decode cX4_hasRuleItems 71 = .ok (.aload_n 0, 1) := by decide +kernel
theorem dX4_hasRuleItems_72 : decode cX4_hasRuleItems 72 = .ok (.getfield 11, 3) := by decide +kernel
theorem dX4_hasRuleItems_75 : decode cX4_hasRuleItems 75 = .ok (.iload 4, 2) := by decide +kernel
theorem dX4_hasRuleItems_77 : decode cX4_hasRuleItems 77 = .ok (.aload_n 1, 1) := by decide +kernel
theorem dX4_hasRuleItems_78 : decode cX4_hasRuleItems 78 = .ok (.getfield 77, 3) := by decide +kernel
theorem dX4_hasRuleItems_81 : decode cX4_hasRuleItems 81 = .ok (.iastore, 1) := by decide +kernel
theorem dX4_hasRuleItems_82 : decode cX4_hasRuleItems 82 = .ok (.iinc 3 1, 3) := by decide +kernel
theorem dX4_hasRuleItems_85 : decode cX4_hasRuleItems 85 = .ok (.goto (-81), 3) := by decide +kernel
theorem dX4_hasRuleItems_88 : decode cX4_hasRuleItems 88 = .ok (.iconst 1, 1) := by decide +kernel
theorem dX4_hasRuleItems_89 : decode cX4_hasRuleItems 89 = .ok (.ireturn, 1) := by decide +kernel
def fT_hasRuleItems_4 (u : Nat) (s1 : Int32 × Int32 × pS) : Option ((Int32 × Int32 × pS) ⊕ ((pS) ⊕ (Bool × pS))) :=
  if (iz 3) ≤ s1.2.1 then
    some (.inr (.inl s1.2.2))
  else
    (fT_nextSign u s1.2.2).bind fun p2 =>
    (fT_ruleBy u p2.1).bind fun x3 =>
    (fL_within u x3 (iz 3)).bind fun b4 =>
    if b4 = true then
      if ((s1.1 >>> (x3 &&& 31)) &&& (iz 1)) = (iz 1) then
        some (.inr (.inr (true, p2.2)))
      else
        (fT_pass u p2.2).bind fun g5 =>
        (nx_rd 3 (nx_sv 1) x3).bind fun x6 =>
        (nx_rd 3 (nx_sv 2) x3).bind fun x7 =>
        (fT_hasNumber u g5 x6 x7).bind fun p8 =>
        if p8.1 = true then
          (tWr p8.2 2 x3 (p8.2 0 2)).bind fun g9 =>
          some (.inl ((s1.1 ||| ((iz 1) <<< (x3 &&& 31))), (s1.2.1 + iz 1), g9))
        else
          some (.inr (.inr (false, p8.2)))
    else
      some (.inr (.inr (true, p2.2)))
def fT_hasRuleItems (u : Nat) (g : pS) : Option (Bool × pS) :=
  (nx_iter u (fT_hasRuleItems_4 u) ((iz 0), (iz 0), g)).bind (Sum.elim (fun e10 =>
    some (true, e10))
    (fun r0 => some r0))
set_option maxRecDepth 4000 in
theorem jT_hasRuleItems_4 {Γ : nx_G} {M0 : nx_M} {t p : Nat} (hp : t + 4 < p) (u : Nat)   (X : nx_X) (Z : nx_Z) (s1 : Int32 × Int32 × pS) : nx_J Γ X (RX4, cX4_hasRuleItems, 5, (some .boolean), "hasRuleItems", 4) Z (Sum.elim (fun s1 : Int32 × Int32 × pS => .inl (4, [some (.ref (t + 2)), some (.ref t), some (.int s1.1), some (.int s1.2.1), none], [], (tW Γ M0 t p s1.2.2))) (Sum.elim (fun e10 : pS => .inl (88, [some (.ref (t + 2)), some (.ref t), none, none, none], [], (tW Γ M0 t p e10))) (fun r0 : Bool × pS => .inr (some (.int (bz r0.1)), (tW Γ M0 t p r0.2))))) (.inl (4, [some (.ref (t + 2)), some (.ref t), some (.int s1.1), some (.int s1.2.1), none], [], (tW Γ M0 t p s1.2.2))) (fT_hasRuleItems_4 u s1) := by
  unfold fT_hasRuleItems_4
  refine nx_iload_n rfl dX4_hasRuleItems_4 rfl ?_
  refine nx_iconst dX4_hasRuleItems_5 rfl ?_
  refine nx_icmp_ge (t := 88) dX4_hasRuleItems_6 (by decide) rfl ?_ ?_
  · refine nx_weak (ls' := [some (.ref (t + 2)), some (.ref t), none, none, none]) (nx_wk_s (nx_wk_s (nx_wk_n (nx_wk_n (nx_wk_n nx_wk_e))))) ?_
    obtain ⟨_, _, _⟩ := s1
    exact nx_leaf rfl
  · refine nx_aload_n rfl dX4_hasRuleItems_9 rfl ?_
    refine nx_callVr [] (fun r => .int r.1) (fun r => (tW Γ M0 t p r.2)) cw_4_44 cv_X5_nextSign (fun r e => cT_nextSign X.2.1 hp e) tW_t rfl rfl (Nat.le_of_ble_eq_true rfl) (Nat.le_of_ble_eq_true rfl) dX4_hasRuleItems_10 rfl (fun p2 => ?_)
    refine nx_callSr [.int p2.1] (fun r => .int r) (fun _ => (tW Γ M0 t p p2.2)) cw_4_60 wd_437 (fun r e => cT_ruleBy X.2.1  e) rfl rfl (Nat.le_of_ble_eq_true rfl) (Nat.le_of_ble_eq_true rfl) dX4_hasRuleItems_13 rfl (fun x3 => ?_)
    refine nx_istore [some (.ref (t + 2)), some (.ref t), some (.int s1.1), some (.int s1.2.1), some (.int x3)] dX4_hasRuleItems_16 rfl (Nat.le_of_ble_eq_true rfl) rfl rfl ?_
    refine nx_iload rfl dX4_hasRuleItems_18 rfl ?_
    refine nx_iconst dX4_hasRuleItems_20 rfl ?_
    refine nx_callSr [.int x3, .int (iz 3)] (fun r => .int (bz r)) (fun _ => (tW Γ M0 t p p2.2)) cw_4_64 wd_442 (fun r e => cL_within X.2.1  e) rfl rfl (Nat.le_of_ble_eq_true rfl) (Nat.le_of_ble_eq_true rfl) dX4_hasRuleItems_21 rfl (fun b4 => ?_)
    refine nx_ifz_eq (t := 37) dX4_hasRuleItems_24 (by decide) rfl ?_ ?_
    · refine nx_iconst dX4_hasRuleItems_37 rfl ?_
      exact nx_zret (b := true) dX4_hasRuleItems_38 rfl rfl
    · refine nx_iload_n rfl dX4_hasRuleItems_27 rfl ?_
      refine nx_iload rfl dX4_hasRuleItems_28 rfl ?_
      refine nx_ishr dX4_hasRuleItems_30 rfl ?_
      refine nx_iconst dX4_hasRuleItems_31 rfl ?_
      refine nx_iand dX4_hasRuleItems_32 rfl ?_
      refine nx_iconst dX4_hasRuleItems_33 rfl ?_
      refine nx_icmp_ne (t := 39) dX4_hasRuleItems_34 (by decide) rfl ?_ ?_
      · refine nx_iload_n rfl dX4_hasRuleItems_39 rfl ?_
        refine nx_iconst dX4_hasRuleItems_40 rfl ?_
        refine nx_iload rfl dX4_hasRuleItems_41 rfl ?_
        refine nx_ishl dX4_hasRuleItems_43 rfl ?_
        refine nx_ior dX4_hasRuleItems_44 rfl ?_
        refine nx_istore_n [some (.ref (t + 2)), some (.ref t), some (.int (s1.1 ||| ((iz 1) <<< (x3 &&& 31)))), some (.int s1.2.1), some (.int x3)] dX4_hasRuleItems_45 rfl (Nat.le_of_ble_eq_true rfl) rfl rfl ?_
        refine nx_aload_n rfl dX4_hasRuleItems_46 rfl ?_
        refine nx_callVv [] (fun r => (tW Γ M0 t p r)) cw_4_51 cv_X5_pass (fun r e => cT_pass X.2.1 hp e) tW_t rfl rfl (Nat.le_of_ble_eq_true rfl) (Nat.le_of_ble_eq_true rfl) dX4_hasRuleItems_47 rfl (fun g5 => ?_)
        refine nx_aload_n rfl dX4_hasRuleItems_50 rfl ?_
        refine nx_gets (j := 1) (by decide) wd_444 dX4_hasRuleItems_51 rfl ?_
        refine nx_iload rfl dX4_hasRuleItems_54 rfl ?_
        refine nx_sald (j := 1) (by decide) dX4_hasRuleItems_56 rfl (fun x6 => ?_)
        refine nx_gets (j := 2) (by decide) wd_446 dX4_hasRuleItems_57 rfl ?_
        refine nx_iload rfl dX4_hasRuleItems_60 rfl ?_
        refine nx_sald (j := 2) (by decide) dX4_hasRuleItems_62 rfl (fun x7 => ?_)
        refine nx_callVr [.int x6, .int x7] (fun r => .int (bz r.1)) (fun r => (tW Γ M0 t p r.2)) cw_4_74 cv_X5_hasNumber (fun r e => cT_hasNumber X.2.1 hp e) tW_t rfl rfl (Nat.le_of_ble_eq_true rfl) (Nat.le_of_ble_eq_true rfl) dX4_hasRuleItems_63 rfl (fun p8 => ?_)
        refine nx_ifz_ne (t := 71) dX4_hasRuleItems_66 (by decide) rfl ?_ ?_
        · refine nx_aload_n rfl dX4_hasRuleItems_71 rfl ?_
          refine nx_getf fl_4_11 tW_s rfl dX4_hasRuleItems_72 rfl ?_
          refine nx_iload rfl dX4_hasRuleItems_75 rfl ?_
          refine nx_aload_n rfl dX4_hasRuleItems_77 rfl ?_
          refine nx_getfN fl_4_77 tW_t rfl dX4_hasRuleItems_78 rfl ?_
          refine t_iast hp 2 (by decide) dX4_hasRuleItems_81 rfl (fun g9 => ?_)
          refine nx_iinc [some (.ref (t + 2)), some (.ref t), some (.int (s1.1 ||| ((iz 1) <<< (x3 &&& 31)))), some (.int (s1.2.1 + iz 1)), some (.int x3)] dX4_hasRuleItems_82 rfl rfl (Nat.le_of_ble_eq_true rfl) rfl rfl ?_
          refine nx_goto (q := 4) dX4_hasRuleItems_85 (by decide) ?_
          refine nx_weak (ls' := [some (.ref (t + 2)), some (.ref t), some (.int (s1.1 ||| ((iz 1) <<< (x3 &&& 31)))), some (.int (s1.2.1 + iz 1)), none]) (nx_wk_s (nx_wk_s (nx_wk_s (nx_wk_s (nx_wk_n nx_wk_e))))) ?_
          obtain ⟨_, _, _⟩ := s1
          exact nx_leaf rfl
        · refine nx_iconst dX4_hasRuleItems_69 rfl ?_
          exact nx_zret (b := false) dX4_hasRuleItems_70 rfl rfl
      · refine nx_iconst dX4_hasRuleItems_37 rfl ?_
        exact nx_zret (b := true) dX4_hasRuleItems_38 rfl rfl
set_option maxRecDepth 4000 in
theorem jT_hasRuleItems {Γ : nx_G} {M0 : nx_M} {t p : Nat} (hp : t + 4 < p) (u : Nat) (g : pS)   (X : nx_X) (Z : nx_Z) : nx_J Γ X (RX4, cX4_hasRuleItems, 5, (some .boolean), "hasRuleItems", 4) Z (fun r0 : Bool × pS => .inr (some (.int (bz r0.1)), (tW Γ M0 t p r0.2))) (.inl (0, [some (.ref (t + 2)), some (.ref t), none, none, none], [], (tW Γ M0 t p g))) (fT_hasRuleItems u g) := by
  unfold fT_hasRuleItems
  refine nx_iconst dX4_hasRuleItems_0 rfl ?_
  refine nx_istore_n [some (.ref (t + 2)), some (.ref t), some (.int (iz 0)), none, none] dX4_hasRuleItems_1 rfl (Nat.le_of_ble_eq_true rfl) rfl rfl ?_
  refine nx_iconst dX4_hasRuleItems_2 rfl ?_
  refine nx_istore_n [some (.ref (t + 2)), some (.ref t), some (.int (iz 0)), some (.int (iz 0)), none] dX4_hasRuleItems_3 rfl (Nat.le_of_ble_eq_true rfl) rfl rfl ?_
  refine nx_seqS (Ca := fun e10 : pS => .inl (88, [some (.ref (t + 2)), some (.ref t), none, none, none], [], (tW Γ M0 t p e10))) (Cb := fun r0 : Bool × pS => .inr (some (.int (bz r0.1)), (tW Γ M0 t p r0.2))) (nx_loop (C1 := fun s1 : Int32 × Int32 × pS => .inl (4, [some (.ref (t + 2)), some (.ref t), some (.int s1.1), some (.int s1.2.1), none], [], (tW Γ M0 t p s1.2.2))) (fun s1 => jT_hasRuleItems_4 hp u X Z s1) ((iz 0), (iz 0), g)) (fun e10 => ?_) (fun r0 => ?_)
  · refine nx_iconst dX4_hasRuleItems_88 rfl ?_
    exact nx_zret (b := true) dX4_hasRuleItems_89 rfl rfl
  · exact nx_leaf rfl
theorem cT_hasRuleItems (l : Launch) {Γ : nx_G} {M0 : nx_M} {t p : Nat} (hp : t + 4 < p) {u : Nat} {g : pS} {r : Bool × pS}  (h : fT_hasRuleItems u g = some r) : nx_Ct l Γ 4 yX4_hasRuleItems cX4_hasRuleItems 5 (some .boolean) [.ref (t + 2), .ref t] (tW Γ M0 t p g) (some (.int (bz r.1)), (tW Γ M0 t p r.2)) :=
  nx_ct (out := fun r0 : Bool × pS => (some (.int (bz r0.1)), (tW Γ M0 t p r0.2))) [some (.ref (t + 2)), some (.ref t), none, none, none] pn_RX4 h (Nat.le_of_ble_eq_true rfl) rfl (fun X Z _ => jT_hasRuleItems hp u g X Z)
theorem dX4_hasKeyItem_0 : decode cX4_hasKeyItem 0 = .ok (.aload_n 1, 1) := by decide +kernel
theorem dX4_hasKeyItem_1 : decode cX4_hasKeyItem 1 = .ok (.invokevirtual 44, 3) := by decide +kernel
theorem dX4_hasKeyItem_4 : decode cX4_hasKeyItem 4 = .ok (.bipush 118, 2) := by decide +kernel
theorem dX4_hasKeyItem_6 : decode cX4_hasKeyItem 6 = .ok (.if_icmp .eq 5, 3) := by decide +kernel
theorem dX4_hasKeyItem_9 : decode cX4_hasKeyItem 9 = .ok (.iconst 1, 1) := by decide +kernel
theorem dX4_hasKeyItem_10 : decode cX4_hasKeyItem 10 = .ok (.ireturn, 1) := by decide +kernel
theorem dX4_hasKeyItem_11 : decode cX4_hasKeyItem 11 = .ok (.aload_n 1, 1) := by decide +kernel
theorem dX4_hasKeyItem_12 : decode cX4_hasKeyItem 12 = .ok (.invokevirtual 51, 3) := by decide +kernel
theorem dX4_hasKeyItem_15 : decode cX4_hasKeyItem 15 = .ok (.aload_n 1, 1) := by decide +kernel
theorem dX4_hasKeyItem_16 : decode cX4_hasKeyItem 16 = .ok (.iconst 0, 1) := by decide +kernel
theorem dX4_hasKeyItem_17 : decode cX4_hasKeyItem 17 = .ok (.bipush 99, 2) := by decide +kernel
theorem dX4_hasKeyItem_19 : decode cX4_hasKeyItem 19 = .ok (.invokevirtual 74, 3) := by decide +kernel
theorem dX4_hasKeyItem_22 : decode cX4_hasKeyItem 22 = .ok (.ifCond .eq 20, 3) := by decide +kernel
theorem dX4_hasKeyItem_25 : decode cX4_hasKeyItem 25 = .ok (.aload_n 0, 1) := by decide +kernel
theorem dX4_hasKeyItem_26 : decode cX4_hasKeyItem 26 = .ok (.getfield 21, 3) := by decide +kernel
theorem dX4_hasKeyItem_29 : decode cX4_hasKeyItem 29 = .ok (.iconst 1, 1) := by decide +kernel
theorem dX4_hasKeyItem_30 : decode cX4_hasKeyItem 30 = .ok (.if_icmp .lt 12, 3) := by decide +kernel
theorem dX4_hasKeyItem_33 : decode cX4_hasKeyItem 33 = .ok (.aload_n 0, 1) := by decide +kernel
theorem dX4_hasKeyItem_34 : decode cX4_hasKeyItem 34 = .ok (.getfield 21, 3) := by decide +kernel
theorem dX4_hasKeyItem_37 : decode cX4_hasKeyItem 37 = .ok (.bipush 6, 2) := by decide +kernel
theorem dX4_hasKeyItem_39 : decode cX4_hasKeyItem 39 = .ok (.if_icmp .le 5, 3) := by decide +kernel
theorem dX4_hasKeyItem_42 : decode cX4_hasKeyItem 42 = .ok (.iconst 0, 1) := by decide +kernel
theorem dX4_hasKeyItem_43 : decode cX4_hasKeyItem 43 = .ok (.ireturn, 1) := by decide +kernel
theorem dX4_hasKeyItem_44 : decode cX4_hasKeyItem 44 = .ok (.aload_n 0, 1) := by decide +kernel
theorem dX4_hasKeyItem_45 : decode cX4_hasKeyItem 45 = .ok (.getfield 15, 3) := by decide +kernel
theorem dX4_hasKeyItem_48 : decode cX4_hasKeyItem 48 = .ok (.aload_n 0, 1) := by decide +kernel
theorem dX4_hasKeyItem_49 : decode cX4_hasKeyItem 49 = .ok (.getfield 21, 3) := by decide +kernel
theorem dX4_hasKeyItem_52 : decode cX4_hasKeyItem 52 = .ok (.iconst 1, 1) := by decide +kernel
theorem dX4_hasKeyItem_53 : decode cX4_hasKeyItem 53 = .ok (.isub, 1) := by decide +kernel
theorem dX4_hasKeyItem_54 : decode cX4_hasKeyItem 54 = .ok (.aload_n 1, 1) := by decide +kernel
theorem dX4_hasKeyItem_55 : decode cX4_hasKeyItem 55 = .ok (.getfield 77, 3) := by decide +kernel
theorem dX4_hasKeyItem_58 : decode cX4_hasKeyItem 58 = .ok (.iastore, 1) := by decide +kernel
theorem dX4_hasKeyItem_59 : decode cX4_hasKeyItem 59 = .ok (.iconst 1, 1) := by decide +kernel
theorem dX4_hasKeyItem_60 : decode cX4_hasKeyItem 60 = .ok (.ireturn, 1) := by decide +kernel
def fT_hasKeyItem (u : Nat) (g : pS) : Option (Bool × pS) :=
  (fT_nextSign u g).bind fun p1 =>
  if p1.1 = (iz 118) then
    (fT_pass u p1.2).bind fun g2 =>
    (fT_hasNumber u g2 (iz 0) (iz 99)).bind fun p3 =>
    if p3.1 = true then
      if (p3.2 0 3) < (iz 1) then
        some (false, p3.2)
      else
        if (p3.2 0 3) ≤ (iz 6) then
          (tWr p3.2 3 ((p3.2 0 3) - (iz 1)) (p3.2 0 2)).bind fun g4 =>
          some (true, g4)
        else
          some (false, p3.2)
    else
      some (false, p3.2)
  else
    some (true, p1.2)
set_option maxRecDepth 4000 in
theorem jT_hasKeyItem {Γ : nx_G} {M0 : nx_M} {t p : Nat} (hp : t + 4 < p) (u : Nat) (g : pS)   (X : nx_X) (Z : nx_Z) : nx_J Γ X (RX4, cX4_hasKeyItem, 2, (some .boolean), "hasKeyItem", 4) Z (fun r0 : Bool × pS => .inr (some (.int (bz r0.1)), (tW Γ M0 t p r0.2))) (.inl (0, [some (.ref (t + 2)), some (.ref t)], [], (tW Γ M0 t p g))) (fT_hasKeyItem u g) := by
  unfold fT_hasKeyItem
  refine nx_aload_n rfl dX4_hasKeyItem_0 rfl ?_
  refine nx_callVr [] (fun r => .int r.1) (fun r => (tW Γ M0 t p r.2)) cw_4_44 cv_X5_nextSign (fun r e => cT_nextSign X.2.1 hp e) tW_t rfl rfl (Nat.le_of_ble_eq_true rfl) (Nat.le_of_ble_eq_true rfl) dX4_hasKeyItem_1 rfl (fun p1 => ?_)
  refine nx_bipush (by decide +kernel) dX4_hasKeyItem_4 rfl ?_
  refine nx_icmp_eq (t := 11) dX4_hasKeyItem_6 (by decide) rfl ?_ ?_
  · refine nx_aload_n rfl dX4_hasKeyItem_11 rfl ?_
    refine nx_callVv [] (fun r => (tW Γ M0 t p r)) cw_4_51 cv_X5_pass (fun r e => cT_pass X.2.1 hp e) tW_t rfl rfl (Nat.le_of_ble_eq_true rfl) (Nat.le_of_ble_eq_true rfl) dX4_hasKeyItem_12 rfl (fun g2 => ?_)
    refine nx_aload_n rfl dX4_hasKeyItem_15 rfl ?_
    refine nx_iconst dX4_hasKeyItem_16 rfl ?_
    refine nx_bipush (by decide +kernel) dX4_hasKeyItem_17 rfl ?_
    refine nx_callVr [.int (iz 0), .int (iz 99)] (fun r => .int (bz r.1)) (fun r => (tW Γ M0 t p r.2)) cw_4_74 cv_X5_hasNumber (fun r e => cT_hasNumber X.2.1 hp e) tW_t rfl rfl (Nat.le_of_ble_eq_true rfl) (Nat.le_of_ble_eq_true rfl) dX4_hasKeyItem_19 rfl (fun p3 => ?_)
    refine nx_ifz_eq (t := 42) dX4_hasKeyItem_22 (by decide) rfl ?_ ?_
    · refine nx_iconst dX4_hasKeyItem_42 rfl ?_
      exact nx_zret (b := false) dX4_hasKeyItem_43 rfl rfl
    · refine nx_aload_n rfl dX4_hasKeyItem_25 rfl ?_
      refine nx_getf fl_4_21 tW_s rfl dX4_hasKeyItem_26 rfl ?_
      refine nx_iconst dX4_hasKeyItem_29 rfl ?_
      refine nx_icmp_lt (t := 42) dX4_hasKeyItem_30 (by decide) rfl ?_ ?_
      · refine nx_iconst dX4_hasKeyItem_42 rfl ?_
        exact nx_zret (b := false) dX4_hasKeyItem_43 rfl rfl
      · refine nx_aload_n rfl dX4_hasKeyItem_33 rfl ?_
        refine nx_getf fl_4_21 tW_s rfl dX4_hasKeyItem_34 rfl ?_
        refine nx_bipush (by decide +kernel) dX4_hasKeyItem_37 rfl ?_
        refine nx_icmp_le (t := 44) dX4_hasKeyItem_39 (by decide) rfl ?_ ?_
        · refine nx_aload_n rfl dX4_hasKeyItem_44 rfl ?_
          refine nx_getf fl_4_15 tW_s rfl dX4_hasKeyItem_45 rfl ?_
          refine nx_aload_n rfl dX4_hasKeyItem_48 rfl ?_
          refine nx_getf fl_4_21 tW_s rfl dX4_hasKeyItem_49 rfl ?_
          refine nx_iconst dX4_hasKeyItem_52 rfl ?_
          refine nx_isub dX4_hasKeyItem_53 rfl ?_
          refine nx_aload_n rfl dX4_hasKeyItem_54 rfl ?_
          refine nx_getfN fl_4_77 tW_t rfl dX4_hasKeyItem_55 rfl ?_
          refine t_iast hp 3 (by decide) dX4_hasKeyItem_58 rfl (fun g4 => ?_)
          refine nx_iconst dX4_hasKeyItem_59 rfl ?_
          exact nx_zret (b := true) dX4_hasKeyItem_60 rfl rfl
        · refine nx_iconst dX4_hasKeyItem_42 rfl ?_
          exact nx_zret (b := false) dX4_hasKeyItem_43 rfl rfl
  · refine nx_iconst dX4_hasKeyItem_9 rfl ?_
    exact nx_zret (b := true) dX4_hasKeyItem_10 rfl rfl
theorem cT_hasKeyItem (l : Launch) {Γ : nx_G} {M0 : nx_M} {t p : Nat} (hp : t + 4 < p) {u : Nat} {g : pS} {r : Bool × pS}  (h : fT_hasKeyItem u g = some r) : nx_Ct l Γ 4 yX4_hasKeyItem cX4_hasKeyItem 2 (some .boolean) [.ref (t + 2), .ref t] (tW Γ M0 t p g) (some (.int (bz r.1)), (tW Γ M0 t p r.2)) :=
  nx_ct (out := fun r0 : Bool × pS => (some (.int (bz r0.1)), (tW Γ M0 t p r0.2))) [some (.ref (t + 2)), some (.ref t)] pn_RX4 h (Nat.le_of_ble_eq_true rfl) rfl (fun X Z _ => jT_hasKeyItem hp u g X Z)
theorem dX4_hasClause_0 : decode cX4_hasClause 0 = .ok (.aload_n 1, 1) := by decide +kernel
theorem dX4_hasClause_1 : decode cX4_hasClause 1 = .ok (.invokevirtual 44, 3) := by decide +kernel
theorem dX4_hasClause_4 : decode cX4_hasClause 4 = .ok (.istore_n 2, 1) := by decide +kernel
theorem dX4_hasClause_5 : decode cX4_hasClause 5 = .ok (.iload_n 2, 1) := by decide +kernel
theorem dX4_hasClause_6 : decode cX4_hasClause 6 = .ok (.bipush 115, 2) := by decide +kernel
theorem dX4_hasClause_8 : decode cX4_hasClause 8 = .ok (.if_icmp .ne 25, 3) := by decide +kernel
theorem dX4_hasClause_11 : decode cX4_hasClause 11 = .ok (.aload_n 0, 1) := by decide +kernel
theorem dX4_hasClause_12 : decode cX4_hasClause 12 = .ok (.getfield 25, 3) := by decide +kernel
theorem dX4_hasClause_15 : decode cX4_hasClause 15 = .ok (.ifCond .ne 18, 3) := by decide +kernel
theorem dX4_hasClause_18 : decode cX4_hasClause 18 = .ok (.aload_n 0, 1) := by decide +kernel
theorem dX4_hasClause_19 : decode cX4_hasClause 19 = .ok (.iconst 1, 1) := by decide +kernel
theorem dX4_hasClause_20 : decode cX4_hasClause 20 = .ok (.putfield 25, 3) := by decide +kernel
theorem dX4_hasClause_23 : decode cX4_hasClause 23 = .ok (.aload_n 1, 1) := by decide +kernel
theorem dX4_hasClause_24 : decode cX4_hasClause 24 = .ok (.invokevirtual 51, 3) := by decide +kernel
theorem dX4_hasClause_27 : decode cX4_hasClause 27 = .ok (.aload_n 0, 1) := by decide +kernel
theorem dX4_hasClause_28 : decode cX4_hasClause 28 = .ok (.aload_n 1, 1) := by decide +kernel
theorem dX4_hasClause_29 : decode cX4_hasClause 29 = .ok (.invokevirtual 54, 3) := by decide +kernel
theorem dX4_hasClause_32 : decode cX4_hasClause 32 = .ok (.ireturn, 1) := by decide +kernel
theorem dX4_hasClause_33 : decode cX4_hasClause 33 = .ok (.iload_n 2, 1) := by decide +kernel
theorem dX4_hasClause_34 : decode cX4_hasClause 34 = .ok (.bipush 107, 2) := by decide +kernel
theorem dX4_hasClause_36 : decode cX4_hasClause 36 = .ok (.if_icmp .ne 42, 3) := by decide +kernel
theorem dX4_hasClause_39 : decode cX4_hasClause 39 = .ok (.aload_n 0, 1) := by decide +kernel
theorem dX4_hasClause_40 : decode cX4_hasClause 40 = .ok (.getfield 21, 3) := by decide +kernel
theorem dX4_hasClause_43 : decode cX4_hasClause 43 = .ok (.bipush 6, 2) := by decide +kernel
theorem dX4_hasClause_45 : decode cX4_hasClause 45 = .ok (.if_icmp .ge 33, 3) := by decide +kernel
theorem dX4_hasClause_48 : decode cX4_hasClause 48 = .ok (.aload_n 0, 1) := by decide +kernel
theorem dX4_hasClause_49 : decode cX4_hasClause 49 = .ok (.getfield 15, 3) := by decide +kernel
theorem dX4_hasClause_52 : decode cX4_hasClause 52 = .ok (.aload_n 0, 1) := by decide +kernel
theorem dX4_hasClause_53 : decode cX4_hasClause 53 = .ok (.getfield 21, 3) := by decide +kernel
theorem dX4_hasClause_56 : decode cX4_hasClause 56 = .ok (.iconst 0, 1) := by decide +kernel
theorem dX4_hasClause_57 : decode cX4_hasClause 57 = .ok (.iastore, 1) := by decide +kernel
theorem dX4_hasClause_58 : decode cX4_hasClause 58 = .ok (.aload_n 0, 1) := by decide +kernel
theorem dX4_hasClause_59 : decode cX4_hasClause 59 = .ok (.dup, 1) := by decide +kernel
theorem dX4_hasClause_60 : decode cX4_hasClause 60 = .ok (.getfield 21, 3) := by decide +kernel
theorem dX4_hasClause_63 : decode cX4_hasClause 63 = .ok (.iconst 1, 1) := by decide +kernel
theorem dX4_hasClause_64 : decode cX4_hasClause 64 = .ok (.iadd, 1) := by decide +kernel
theorem dX4_hasClause_65 : decode cX4_hasClause 65 = .ok (.putfield 21, 3) := by decide +kernel
theorem dX4_hasClause_68 : decode cX4_hasClause 68 = .ok (.aload_n 1, 1) := by decide +kernel
theorem dX4_hasClause_69 : decode cX4_hasClause 69 = .ok (.invokevirtual 51, 3) := by decide +kernel
theorem dX4_hasClause_72 : decode cX4_hasClause 72 = .ok (.aload_n 0, 1) := by decide +kernel
theorem dX4_hasClause_73 : decode cX4_hasClause 73 = .ok (.aload_n 1, 1) := by decide +kernel
theorem dX4_hasClause_74 : decode cX4_hasClause 74 = .ok (.invokevirtual 57, 3) := by decide +kernel
theorem dX4_hasClause_77 : decode cX4_hasClause 77 = .ok (.ireturn, 1) := by decide +kernel
theorem dX4_hasClause_78 : decode cX4_hasClause 78 = .ok (.iconst 0, 1) := by decide +kernel
theorem dX4_hasClause_79 : decode cX4_hasClause 79 = .ok (.ireturn, 1) := by decide +kernel
def fT_hasClause (u : Nat) (g : pS) : Option (Bool × pS) :=
  (fT_nextSign u g).bind fun p1 =>
  if p1.1 = (iz 115) then
    if (p1.2 0 4) = iz 0 then
      (some (tFs p1.2 4 (iz 1))).bind fun g10 =>
      (fT_pass u g10).bind fun g11 =>
      (fT_hasRuleItems u g11).bind fun p12 =>
      some (p12.1, p12.2)
    else
      if p1.1 = (iz 107) then
        if (iz 6) ≤ (p1.2 0 3) then
          some (false, p1.2)
        else
          (tWr p1.2 3 (p1.2 0 3) (iz 0)).bind fun g6 =>
          (some (tFs g6 3 ((g6 0 3) + (iz 1)))).bind fun g7 =>
          (fT_pass u g7).bind fun g8 =>
          (fT_hasKeyItem u g8).bind fun p9 =>
          some (p9.1, p9.2)
      else
        some (false, p1.2)
  else
    if p1.1 = (iz 107) then
      if (iz 6) ≤ (p1.2 0 3) then
        some (false, p1.2)
      else
        (tWr p1.2 3 (p1.2 0 3) (iz 0)).bind fun g2 =>
        (some (tFs g2 3 ((g2 0 3) + (iz 1)))).bind fun g3 =>
        (fT_pass u g3).bind fun g4 =>
        (fT_hasKeyItem u g4).bind fun p5 =>
        some (p5.1, p5.2)
    else
      some (false, p1.2)
set_option maxRecDepth 4000 in
theorem jT_hasClause {Γ : nx_G} {M0 : nx_M} {t p : Nat} (hp : t + 4 < p) (u : Nat) (g : pS)   (X : nx_X) (Z : nx_Z) : nx_J Γ X (RX4, cX4_hasClause, 3, (some .boolean), "hasClause", 5) Z (fun r0 : Bool × pS => .inr (some (.int (bz r0.1)), (tW Γ M0 t p r0.2))) (.inl (0, [some (.ref (t + 2)), some (.ref t), none], [], (tW Γ M0 t p g))) (fT_hasClause u g) := by
  unfold fT_hasClause
  refine nx_aload_n rfl dX4_hasClause_0 rfl ?_
  refine nx_callVr [] (fun r => .int r.1) (fun r => (tW Γ M0 t p r.2)) cw_4_44 cv_X5_nextSign (fun r e => cT_nextSign X.2.1 hp e) tW_t rfl rfl (Nat.le_of_ble_eq_true rfl) (Nat.le_of_ble_eq_true rfl) dX4_hasClause_1 rfl (fun p1 => ?_)
  refine nx_istore_n [some (.ref (t + 2)), some (.ref t), some (.int p1.1)] dX4_hasClause_4 rfl (Nat.le_of_ble_eq_true rfl) rfl rfl ?_
  refine nx_iload_n rfl dX4_hasClause_5 rfl ?_
  refine nx_bipush (by decide +kernel) dX4_hasClause_6 rfl ?_
  refine nx_icmp_ne (t := 33) dX4_hasClause_8 (by decide) rfl ?_ ?_
  · refine nx_iload_n rfl dX4_hasClause_33 rfl ?_
    refine nx_bipush (by decide +kernel) dX4_hasClause_34 rfl ?_
    refine nx_icmp_ne (t := 78) dX4_hasClause_36 (by decide) rfl ?_ ?_
    · refine nx_iconst dX4_hasClause_78 rfl ?_
      exact nx_zret (b := false) dX4_hasClause_79 rfl rfl
    · refine nx_aload_n rfl dX4_hasClause_39 rfl ?_
      refine nx_getf fl_4_21 tW_s rfl dX4_hasClause_40 rfl ?_
      refine nx_bipush (by decide +kernel) dX4_hasClause_43 rfl ?_
      refine nx_icmp_ge (t := 78) dX4_hasClause_45 (by decide) rfl ?_ ?_
      · refine nx_iconst dX4_hasClause_78 rfl ?_
        exact nx_zret (b := false) dX4_hasClause_79 rfl rfl
      · refine nx_aload_n rfl dX4_hasClause_48 rfl ?_
        refine nx_getf fl_4_15 tW_s rfl dX4_hasClause_49 rfl ?_
        refine nx_aload_n rfl dX4_hasClause_52 rfl ?_
        refine nx_getf fl_4_21 tW_s rfl dX4_hasClause_53 rfl ?_
        refine nx_iconst dX4_hasClause_56 rfl ?_
        refine t_iast hp 3 (by decide) dX4_hasClause_57 rfl (fun g2 => ?_)
        refine nx_aload_n rfl dX4_hasClause_58 rfl ?_
        refine nx_dup rfl dX4_hasClause_59 rfl ?_
        refine nx_getf fl_4_21 tW_s rfl dX4_hasClause_60 rfl ?_
        refine nx_iconst dX4_hasClause_63 rfl ?_
        refine nx_iadd dX4_hasClause_64 rfl ?_
        refine t_put (k := 3) (Or.inl fl_4_21) ft_4_2 tW_s rfl rfl (Nat.le_of_ble_eq_true rfl) (tW_fld hp (t + 2) _ (Or.inr (Or.inl ⟨by decide, rfl, rfl⟩))) dX4_hasClause_65 rfl (fun g3 => ?_)
        refine nx_aload_n rfl dX4_hasClause_68 rfl ?_
        refine nx_callVv [] (fun r => (tW Γ M0 t p r)) cw_4_51 cv_X5_pass (fun r e => cT_pass X.2.1 hp e) tW_t rfl rfl (Nat.le_of_ble_eq_true rfl) (Nat.le_of_ble_eq_true rfl) dX4_hasClause_69 rfl (fun g4 => ?_)
        refine nx_aload_n rfl dX4_hasClause_72 rfl ?_
        refine nx_aload_n rfl dX4_hasClause_73 rfl ?_
        refine nx_callVr [.ref t] (fun r => .int (bz r.1)) (fun r => (tW Γ M0 t p r.2)) cw_4_57 cv_X4_hasKeyItem (fun r e => cT_hasKeyItem X.2.1 hp e) tW_s rfl rfl (Nat.le_of_ble_eq_true rfl) (Nat.le_of_ble_eq_true rfl) dX4_hasClause_74 rfl (fun p5 => ?_)
        exact nx_zret dX4_hasClause_77 rfl rfl
  · refine nx_aload_n rfl dX4_hasClause_11 rfl ?_
    refine nx_getf fl_4_25 tW_s rfl dX4_hasClause_12 rfl ?_
    refine nx_if_ne (t := 33) dX4_hasClause_15 (by decide) rfl ?_ ?_
    · refine nx_iload_n rfl dX4_hasClause_33 rfl ?_
      refine nx_bipush (by decide +kernel) dX4_hasClause_34 rfl ?_
      refine nx_icmp_ne (t := 78) dX4_hasClause_36 (by decide) rfl ?_ ?_
      · refine nx_iconst dX4_hasClause_78 rfl ?_
        exact nx_zret (b := false) dX4_hasClause_79 rfl rfl
      · refine nx_aload_n rfl dX4_hasClause_39 rfl ?_
        refine nx_getf fl_4_21 tW_s rfl dX4_hasClause_40 rfl ?_
        refine nx_bipush (by decide +kernel) dX4_hasClause_43 rfl ?_
        refine nx_icmp_ge (t := 78) dX4_hasClause_45 (by decide) rfl ?_ ?_
        · refine nx_iconst dX4_hasClause_78 rfl ?_
          exact nx_zret (b := false) dX4_hasClause_79 rfl rfl
        · refine nx_aload_n rfl dX4_hasClause_48 rfl ?_
          refine nx_getf fl_4_15 tW_s rfl dX4_hasClause_49 rfl ?_
          refine nx_aload_n rfl dX4_hasClause_52 rfl ?_
          refine nx_getf fl_4_21 tW_s rfl dX4_hasClause_53 rfl ?_
          refine nx_iconst dX4_hasClause_56 rfl ?_
          refine t_iast hp 3 (by decide) dX4_hasClause_57 rfl (fun g6 => ?_)
          refine nx_aload_n rfl dX4_hasClause_58 rfl ?_
          refine nx_dup rfl dX4_hasClause_59 rfl ?_
          refine nx_getf fl_4_21 tW_s rfl dX4_hasClause_60 rfl ?_
          refine nx_iconst dX4_hasClause_63 rfl ?_
          refine nx_iadd dX4_hasClause_64 rfl ?_
          refine t_put (k := 3) (Or.inl fl_4_21) ft_4_2 tW_s rfl rfl (Nat.le_of_ble_eq_true rfl) (tW_fld hp (t + 2) _ (Or.inr (Or.inl ⟨by decide, rfl, rfl⟩))) dX4_hasClause_65 rfl (fun g7 => ?_)
          refine nx_aload_n rfl dX4_hasClause_68 rfl ?_
          refine nx_callVv [] (fun r => (tW Γ M0 t p r)) cw_4_51 cv_X5_pass (fun r e => cT_pass X.2.1 hp e) tW_t rfl rfl (Nat.le_of_ble_eq_true rfl) (Nat.le_of_ble_eq_true rfl) dX4_hasClause_69 rfl (fun g8 => ?_)
          refine nx_aload_n rfl dX4_hasClause_72 rfl ?_
          refine nx_aload_n rfl dX4_hasClause_73 rfl ?_
          refine nx_callVr [.ref t] (fun r => .int (bz r.1)) (fun r => (tW Γ M0 t p r.2)) cw_4_57 cv_X4_hasKeyItem (fun r e => cT_hasKeyItem X.2.1 hp e) tW_s rfl rfl (Nat.le_of_ble_eq_true rfl) (Nat.le_of_ble_eq_true rfl) dX4_hasClause_74 rfl (fun p9 => ?_)
          exact nx_zret dX4_hasClause_77 rfl rfl
    · refine nx_aload_n rfl dX4_hasClause_18 rfl ?_
      refine nx_iconst dX4_hasClause_19 rfl ?_
      refine t_put (k := 4) (Or.inl fl_4_25) ft_4_3 tW_s (by decide +kernel) (by decide +kernel) (Nat.le_of_ble_eq_true rfl) (tW_fld hp (t + 2) _ (Or.inr (Or.inl ⟨by decide, rfl, rfl⟩))) dX4_hasClause_20 rfl (fun g10 => ?_)
      refine nx_aload_n rfl dX4_hasClause_23 rfl ?_
      refine nx_callVv [] (fun r => (tW Γ M0 t p r)) cw_4_51 cv_X5_pass (fun r e => cT_pass X.2.1 hp e) tW_t rfl rfl (Nat.le_of_ble_eq_true rfl) (Nat.le_of_ble_eq_true rfl) dX4_hasClause_24 rfl (fun g11 => ?_)
      refine nx_aload_n rfl dX4_hasClause_27 rfl ?_
      refine nx_aload_n rfl dX4_hasClause_28 rfl ?_
      refine nx_callVr [.ref t] (fun r => .int (bz r.1)) (fun r => (tW Γ M0 t p r.2)) cw_4_54 cv_X4_hasRuleItems (fun r e => cT_hasRuleItems X.2.1 hp e) tW_s rfl rfl (Nat.le_of_ble_eq_true rfl) (Nat.le_of_ble_eq_true rfl) dX4_hasClause_29 rfl (fun p12 => ?_)
      exact nx_zret dX4_hasClause_32 rfl rfl
theorem cT_hasClause (l : Launch) {Γ : nx_G} {M0 : nx_M} {t p : Nat} (hp : t + 4 < p) {u : Nat} {g : pS} {r : Bool × pS}  (h : fT_hasClause u g = some r) : nx_Ct l Γ 5 yX4_hasClause cX4_hasClause 3 (some .boolean) [.ref (t + 2), .ref t] (tW Γ M0 t p g) (some (.int (bz r.1)), (tW Γ M0 t p r.2)) :=
  nx_ct (out := fun r0 : Bool × pS => (some (.int (bz r0.1)), (tW Γ M0 t p r0.2))) [some (.ref (t + 2)), some (.ref t), none] pn_RX4 h (Nat.le_of_ble_eq_true rfl) rfl (fun X Z _ => jT_hasClause hp u g X Z)
theorem dX4_faultOf_0 : decode cX4_faultOf 0 = .ok (.aload_n 0, 1) := by decide +kernel
theorem dX4_faultOf_1 : decode cX4_faultOf 1 = .ok (.invokevirtual 29, 3) := by decide +kernel
theorem dX4_faultOf_4 : decode cX4_faultOf 4 = .ok (.aload_n 1, 1) := by decide +kernel
theorem dX4_faultOf_5 : decode cX4_faultOf 5 = .ok (.invokevirtual 32, 3) := by decide +kernel
theorem dX4_faultOf_8 : decode cX4_faultOf 8 = .ok (.iconst 0, 1) := by decide +kernel
theorem dX4_faultOf_9 : decode cX4_faultOf 9 = .ok (.istore_n 2, 1) := by decide +kernel
theorem dX4_faultOf_10 : decode cX4_faultOf 10 = .ok (.iload_n 2, 1) := by decide +kernel
theorem dX4_faultOf_11 : decode cX4_faultOf 11 = .ok (.bipush 6, 2) := by decide +kernel
theorem dX4_faultOf_13 : decode cX4_faultOf 13 = .ok (.if_icmp .gt 63, 3) := by decide +kernel
theorem dX4_faultOf_16 : decode cX4_faultOf 16 = .ok (.aload_n 0, 1) := by decide +kernel
theorem dX4_faultOf_17 : decode cX4_faultOf 17 = .ok (.aload_n 1, 1) := by decide +kernel
theorem dX4_faultOf_18 : decode cX4_faultOf 18 = .ok (.invokevirtual 37, 3) := by decide +kernel
theorem dX4_faultOf_21 : decode cX4_faultOf 21 = .ok (.ifCond .ne 8, 3) := by decide +kernel
theorem dX4_faultOf_24 : decode cX4_faultOf 24 = .ok (.aload_n 1, 1) := by decide +kernel
theorem dX4_faultOf_25 : decode cX4_faultOf 25 = .ok (.getfield 41, 3) := by decide +kernel
theorem dX4_faultOf_28 : decode cX4_faultOf 28 = .ok (.ireturn, 1) := by decide +kernel
theorem dX4_faultOf_29 : decode cX4_faultOf 29 = .ok (.aload_n 1, 1) := by decide +kernel
theorem dX4_faultOf_30 : decode cX4_faultOf 30 = .ok (.invokevirtual 44, 3) := by decide +kernel
theorem dX4_faultOf_33 : decode cX4_faultOf 33 = .ok (.istore_n 3, 1) := by decide +kernel
theorem dX4_faultOf_34 : decode cX4_faultOf 34 = .ok (.iload_n 3, 1) := by decide +kernel
theorem dX4_faultOf_35 : decode cX4_faultOf 35 = .ok (.iconst (-1), 1) := by decide +kernel
theorem dX4_faultOf_36 : decode cX4_faultOf 36 = .ok (.if_icmp .ne 19, 3) := by decide +kernel
theorem dX4_faultOf_39 : decode cX4_faultOf 39 = .ok (.aload_n 0, 1) := by decide +kernel
theorem dX4_faultOf_40 : decode cX4_faultOf 40 = .ok (.getfield 21, 3) := by decide +kernel
theorem dX4_faultOf_43 : decode cX4_faultOf 43 = .ok (.ifCond .ne 10, 3) := by decide +kernel
theorem dX4_faultOf_46 : decode cX4_faultOf 46 = .ok (.aload_n 1, 1) := by decide +kernel
theorem dX4_faultOf_47 : decode cX4_faultOf 47 = .ok (.getfield 48, 3) := by decide +kernel
theorem dX4_faultOf_50 : decode cX4_faultOf 50 = .ok (.goto 4, 3) := by decide +kernel
theorem dX4_faultOf_53 : decode cX4_faultOf 53 = .ok (.iconst (-1), 1) := by decide +kernel
theorem dX4_faultOf_54 : decode cX4_faultOf 54 = .ok (.ireturn, 1) := by decide +kernel
theorem dX4_faultOf_55 : decode cX4_faultOf 55 = .ok (.iload_n 3, 1) := by decide +kernel
theorem dX4_faultOf_56 : decode cX4_faultOf 56 = .ok (.bipush 59, 2) := by decide +kernel
theorem dX4_faultOf_58 : decode cX4_faultOf 58 = .ok (.if_icmp .eq 8, 3) := by decide +kernel
theorem dX4_faultOf_61 : decode cX4_faultOf 61 = .ok (.aload_n 1, 1) := by decide +kernel
theorem dX4_faultOf_62 : decode cX4_faultOf 62 = .ok (.getfield 41, 3) := by decide +kernel
theorem dX4_faultOf_65 : decode cX4_faultOf 65 = .ok (.ireturn, 1) := by decide +kernel
theorem dX4_faultOf_66 : decode cX4_faultOf 66 = .ok (.aload_n 1, 1) := by decide +kernel
theorem dX4_faultOf_67 : decode cX4_faultOf 67 = .ok (.invokevirtual 51, 3) := by decide +kernel
theorem dX4_faultOf_70 : decode cX4_faultOf 70 = .ok (.iinc 2 1, 3) := by decide +kernel
theorem dX4_faultOf_73 : decode cX4_faultOf 73 = .ok (.goto (-63), 3) := by decide +kernel
theorem dX4_faultOf_76 : decode cX4_faultOf 76 = .ok (.aload_n 1, 1) := by decide +kernel
theorem dX4_faultOf_77 : decode cX4_faultOf 77 = .ok (.invokevirtual 44, 3) := by decide +kernel
theorem dX4_faultOf_80 : decode cX4_faultOf 80 = .ok (.pop, 1) := by decide +kernel
theorem dX4_faultOf_81 : decode cX4_faultOf 81 = .ok (.aload_n 1, 1) := by decide +kernel
theorem dX4_faultOf_82 : decode cX4_faultOf 82 = .ok (.getfield 41, 3) := by decide +kernel
theorem dX4_faultOf_85 : decode cX4_faultOf 85 = .ok (.ireturn, 1) := by decide +kernel
def fT_faultOf_10 (u : Nat) (s3 : Int32 × pS) : Option ((Int32 × pS) ⊕ ((pS) ⊕ (Int32 × pS))) :=
  if (iz 6) < s3.1 then
    some (.inr (.inl s3.2))
  else
    (fT_hasClause u s3.2).bind fun p4 =>
    if p4.1 = true then
      (fT_nextSign u p4.2).bind fun p5 =>
      if p5.1 = (iz (-1)) then
        if (p5.2 0 3) = iz 0 then
          some (.inr (.inr ((p5.2 0 0), p5.2)))
        else
          some (.inr (.inr ((iz (-1)), p5.2)))
      else
        if p5.1 = (iz 59) then
          (fT_pass u p5.2).bind fun g6 =>
          some (.inl ((s3.1 + iz 1), g6))
        else
          some (.inr (.inr ((p5.2 0 1), p5.2)))
    else
      some (.inr (.inr ((p4.2 0 1), p4.2)))
def fT_faultOf (u : Nat) (g : pS) : Option (Int32 × pS) :=
  (fT_reset u g).bind fun g1 =>
  (fT_rewind u g1).bind fun g2 =>
  (nx_iter u (fT_faultOf_10 u) ((iz 0), g2)).bind (Sum.elim (fun e7 =>
    (fT_nextSign u e7).bind fun p8 =>
    some ((p8.2 0 1), p8.2))
    (fun r0 => some r0))
set_option maxRecDepth 4000 in
theorem jT_faultOf_10 {Γ : nx_G} {M0 : nx_M} {t p : Nat} (hp : t + 4 < p) (u : Nat)   (X : nx_X) (Z : nx_Z) (s3 : Int32 × pS) : nx_J Γ X (RX4, cX4_faultOf, 4, (some .int), "faultOf", 6) Z (Sum.elim (fun s3 : Int32 × pS => .inl (10, [some (.ref (t + 2)), some (.ref t), some (.int s3.1), none], [], (tW Γ M0 t p s3.2))) (Sum.elim (fun e7 : pS => .inl (76, [some (.ref (t + 2)), some (.ref t), none, none], [], (tW Γ M0 t p e7))) (fun r0 : Int32 × pS => .inr (some (.int r0.1), (tW Γ M0 t p r0.2))))) (.inl (10, [some (.ref (t + 2)), some (.ref t), some (.int s3.1), none], [], (tW Γ M0 t p s3.2))) (fT_faultOf_10 u s3) := by
  unfold fT_faultOf_10
  refine nx_iload_n rfl dX4_faultOf_10 rfl ?_
  refine nx_bipush (by decide +kernel) dX4_faultOf_11 rfl ?_
  refine nx_icmp_gt (t := 76) dX4_faultOf_13 (by decide) rfl ?_ ?_
  · refine nx_weak (ls' := [some (.ref (t + 2)), some (.ref t), none, none]) (nx_wk_s (nx_wk_s (nx_wk_n (nx_wk_n nx_wk_e)))) ?_
    obtain ⟨_, _⟩ := s3
    exact nx_leaf rfl
  · refine nx_aload_n rfl dX4_faultOf_16 rfl ?_
    refine nx_aload_n rfl dX4_faultOf_17 rfl ?_
    refine nx_callVr [.ref t] (fun r => .int (bz r.1)) (fun r => (tW Γ M0 t p r.2)) cw_4_37 cv_X4_hasClause (fun r e => cT_hasClause X.2.1 hp e) tW_s rfl rfl (Nat.le_of_ble_eq_true rfl) (Nat.le_of_ble_eq_true rfl) dX4_faultOf_18 rfl (fun p4 => ?_)
    refine nx_ifz_ne (t := 29) dX4_faultOf_21 (by decide) rfl ?_ ?_
    · refine nx_aload_n rfl dX4_faultOf_29 rfl ?_
      refine nx_callVr [] (fun r => .int r.1) (fun r => (tW Γ M0 t p r.2)) cw_4_44 cv_X5_nextSign (fun r e => cT_nextSign X.2.1 hp e) tW_t rfl rfl (Nat.le_of_ble_eq_true rfl) (Nat.le_of_ble_eq_true rfl) dX4_faultOf_30 rfl (fun p5 => ?_)
      refine nx_istore_n [some (.ref (t + 2)), some (.ref t), some (.int s3.1), some (.int p5.1)] dX4_faultOf_33 rfl (Nat.le_of_ble_eq_true rfl) rfl rfl ?_
      refine nx_iload_n rfl dX4_faultOf_34 rfl ?_
      refine nx_iconst dX4_faultOf_35 rfl ?_
      refine nx_icmp_ne (t := 55) dX4_faultOf_36 (by decide) rfl ?_ ?_
      · refine nx_iload_n rfl dX4_faultOf_55 rfl ?_
        refine nx_bipush (by decide +kernel) dX4_faultOf_56 rfl ?_
        refine nx_icmp_eq (t := 66) dX4_faultOf_58 (by decide) rfl ?_ ?_
        · refine nx_aload_n rfl dX4_faultOf_66 rfl ?_
          refine nx_callVv [] (fun r => (tW Γ M0 t p r)) cw_4_51 cv_X5_pass (fun r e => cT_pass X.2.1 hp e) tW_t rfl rfl (Nat.le_of_ble_eq_true rfl) (Nat.le_of_ble_eq_true rfl) dX4_faultOf_67 rfl (fun g6 => ?_)
          refine nx_iinc [some (.ref (t + 2)), some (.ref t), some (.int (s3.1 + iz 1)), some (.int p5.1)] dX4_faultOf_70 rfl rfl (Nat.le_of_ble_eq_true rfl) rfl rfl ?_
          refine nx_goto (q := 10) dX4_faultOf_73 (by decide) ?_
          refine nx_weak (ls' := [some (.ref (t + 2)), some (.ref t), some (.int (s3.1 + iz 1)), none]) (nx_wk_s (nx_wk_s (nx_wk_s (nx_wk_n nx_wk_e)))) ?_
          obtain ⟨_, _⟩ := s3
          exact nx_leaf rfl
        · refine nx_aload_n rfl dX4_faultOf_61 rfl ?_
          refine nx_getfN fl_4_41 tW_t rfl dX4_faultOf_62 rfl ?_
          exact nx_iret dX4_faultOf_65 rfl rfl
      · refine nx_aload_n rfl dX4_faultOf_39 rfl ?_
        refine nx_getf fl_4_21 tW_s rfl dX4_faultOf_40 rfl ?_
        refine nx_if_ne (t := 53) dX4_faultOf_43 (by decide) rfl ?_ ?_
        · refine nx_iconst dX4_faultOf_53 rfl ?_
          exact nx_iret dX4_faultOf_54 rfl rfl
        · refine nx_aload_n rfl dX4_faultOf_46 rfl ?_
          refine nx_getfN fl_4_48 tW_t rfl dX4_faultOf_47 rfl ?_
          refine nx_goto (q := 54) dX4_faultOf_50 (by decide) ?_
          exact nx_iret dX4_faultOf_54 rfl rfl
    · refine nx_aload_n rfl dX4_faultOf_24 rfl ?_
      refine nx_getfN fl_4_41 tW_t rfl dX4_faultOf_25 rfl ?_
      exact nx_iret dX4_faultOf_28 rfl rfl
set_option maxRecDepth 4000 in
theorem jT_faultOf {Γ : nx_G} {M0 : nx_M} {t p : Nat} (hp : t + 4 < p) (u : Nat) (g : pS)   (X : nx_X) (Z : nx_Z) : nx_J Γ X (RX4, cX4_faultOf, 4, (some .int), "faultOf", 6) Z (fun r0 : Int32 × pS => .inr (some (.int r0.1), (tW Γ M0 t p r0.2))) (.inl (0, [some (.ref (t + 2)), some (.ref t), none, none], [], (tW Γ M0 t p g))) (fT_faultOf u g) := by
  unfold fT_faultOf
  refine nx_aload_n rfl dX4_faultOf_0 rfl ?_
  refine nx_callVv [] (fun r => (tW Γ M0 t p r)) cw_4_29 cv_X4_reset (fun r e => cT_reset X.2.1 hp e) tW_s rfl rfl (Nat.le_of_ble_eq_true rfl) (Nat.le_of_ble_eq_true rfl) dX4_faultOf_1 rfl (fun g1 => ?_)
  refine nx_aload_n rfl dX4_faultOf_4 rfl ?_
  refine nx_callVv [] (fun r => (tW Γ M0 t p r)) cw_4_32 cv_X5_rewind (fun r e => cT_rewind X.2.1 hp e) tW_t rfl rfl (Nat.le_of_ble_eq_true rfl) (Nat.le_of_ble_eq_true rfl) dX4_faultOf_5 rfl (fun g2 => ?_)
  refine nx_iconst dX4_faultOf_8 rfl ?_
  refine nx_istore_n [some (.ref (t + 2)), some (.ref t), some (.int (iz 0)), none] dX4_faultOf_9 rfl (Nat.le_of_ble_eq_true rfl) rfl rfl ?_
  refine nx_seqS (Ca := fun e7 : pS => .inl (76, [some (.ref (t + 2)), some (.ref t), none, none], [], (tW Γ M0 t p e7))) (Cb := fun r0 : Int32 × pS => .inr (some (.int r0.1), (tW Γ M0 t p r0.2))) (nx_loop (C1 := fun s3 : Int32 × pS => .inl (10, [some (.ref (t + 2)), some (.ref t), some (.int s3.1), none], [], (tW Γ M0 t p s3.2))) (fun s3 => jT_faultOf_10 hp u X Z s3) ((iz 0), g2)) (fun e7 => ?_) (fun r0 => ?_)
  · refine nx_aload_n rfl dX4_faultOf_76 rfl ?_
    refine nx_callVr [] (fun r => .int r.1) (fun r => (tW Γ M0 t p r.2)) cw_4_44 cv_X5_nextSign (fun r e => cT_nextSign X.2.1 hp e) tW_t rfl rfl (Nat.le_of_ble_eq_true rfl) (Nat.le_of_ble_eq_true rfl) dX4_faultOf_77 rfl (fun p8 => ?_)
    refine nx_pop rfl dX4_faultOf_80 rfl ?_
    refine nx_aload_n rfl dX4_faultOf_81 rfl ?_
    refine nx_getfN fl_4_41 tW_t rfl dX4_faultOf_82 rfl ?_
    exact nx_iret dX4_faultOf_85 rfl rfl
  · exact nx_leaf rfl
theorem cT_faultOf (l : Launch) {Γ : nx_G} {M0 : nx_M} {t p : Nat} (hp : t + 4 < p) {u : Nat} {g : pS} {r : Int32 × pS}  (h : fT_faultOf u g = some r) : nx_Ct l Γ 6 yX4_faultOf cX4_faultOf 4 (some .int) [.ref (t + 2), .ref t] (tW Γ M0 t p g) (some (.int r.1), (tW Γ M0 t p r.2)) :=
  nx_ct (out := fun r0 : Int32 × pS => (some (.int r0.1), (tW Γ M0 t p r0.2))) [some (.ref (t + 2)), some (.ref t), none, none] pn_RX4 h (Nat.le_of_ble_eq_true rfl) rfl (fun X Z _ => jT_faultOf hp u g X Z)
theorem dX5_bytesIn_0 : decode cX5_bytesIn 0 = .ok (.iconst 0, 1) := by decide +kernel
theorem dX5_bytesIn_1 : decode cX5_bytesIn 1 = .ok (.istore_n 1, 1) := by decide +kernel
theorem dX5_bytesIn_2 : decode cX5_bytesIn 2 = .ok (.bipush 24, 2) := by decide +kernel
theorem dX5_bytesIn_4 : decode cX5_bytesIn 4 = .ok (.istore_n 2, 1) := by decide +kernel
theorem dX5_bytesIn_5 : decode cX5_bytesIn 5 = .ok (.iload_n 2, 1) := by decide +kernel
theorem dX5_bytesIn_6 : decode cX5_bytesIn 6 = .ok (.ifCond .lt 22, 3) := by decide +kernel
theorem dX5_bytesIn_9 : decode cX5_bytesIn 9 = .ok (.iload_n 0, 1) := by decide +kernel
theorem dX5_bytesIn_10 : decode cX5_bytesIn 10 = .ok (.iload_n 2, 1) := by decide +kernel
theorem dX5_bytesIn_11 : decode cX5_bytesIn 11 = .ok (.iushr, 1) := by decide +kernel
theorem dX5_bytesIn_12 : decode cX5_bytesIn 12 = .ok (.sipush 255, 3) := by decide +kernel
theorem dX5_bytesIn_15 : decode cX5_bytesIn 15 = .ok (.iand, 1) := by decide +kernel
theorem dX5_bytesIn_16 : decode cX5_bytesIn 16 = .ok (.ifCond .eq 6, 3) := by decide +kernel
theorem dX5_bytesIn_19 : decode cX5_bytesIn 19 = .ok (.iinc 1 1, 3) := by decide +kernel
theorem dX5_bytesIn_22 : decode cX5_bytesIn 22 = .ok (.iinc 2 (-8), 3) := by decide +kernel
theorem dX5_bytesIn_25 : decode cX5_bytesIn 25 = .ok (.goto (-20), 3) := by decide +kernel
theorem dX5_bytesIn_28 : decode cX5_bytesIn 28 = .ok (.iload_n 1, 1) := by decide +kernel
theorem dX5_bytesIn_29 : decode cX5_bytesIn 29 = .ok (.ireturn, 1) := by decide +kernel
def fT_bytesIn_5 (a1 : Int32) (s1 : Int32 × Int32) : Option ((Int32 × Int32) ⊕ (Int32)) :=
  if s1.2 < iz 0 then
    some (.inr s1.1)
  else
    (if ((a1.toUInt32 >>> (s1.2.toUInt32 &&& Int32.toUInt32 31)).toInt32 &&& (iz 255)) = iz 0 then
       some s1.1
     else
       some (s1.1 + iz 1) : Option (Int32)).bind fun s2 =>
    some (.inl (s2, (s1.2 + iz (-8))))
def fT_bytesIn (u : Nat) (a1 : Int32) : Option (Int32) :=
  (nx_iter u (fT_bytesIn_5 a1) ((iz 0), (iz 24))).bind fun e3 =>
  some e3
set_option maxRecDepth 4000 in
theorem jT_bytesIn_5 {Γ : nx_G} {M : nx_M} (a1 : Int32)   (X : nx_X) (Z : nx_Z) (s1 : Int32 × Int32) : nx_J Γ X (RX5, cX5_bytesIn, 3, (some .int), "bytesIn", 1) Z (Sum.elim (fun s1 : Int32 × Int32 => .inl (5, [some (.int a1), some (.int s1.1), some (.int s1.2)], [], M)) (fun e3 : Int32 => .inl (28, [some (.int a1), some (.int e3), none], [], M))) (.inl (5, [some (.int a1), some (.int s1.1), some (.int s1.2)], [], M)) (fT_bytesIn_5 a1 s1) := by
  unfold fT_bytesIn_5
  refine nx_iload_n rfl dX5_bytesIn_5 rfl ?_
  refine nx_if_lt (t := 28) dX5_bytesIn_6 (by decide) rfl ?_ ?_
  · refine nx_weak (ls' := [some (.int a1), some (.int s1.1), none]) (nx_wk_s (nx_wk_s (nx_wk_n nx_wk_e))) ?_
    obtain ⟨_, _⟩ := s1
    exact nx_leaf rfl
  · refine nx_iload_n rfl dX5_bytesIn_9 rfl ?_
    refine nx_iload_n rfl dX5_bytesIn_10 rfl ?_
    refine nx_iushr dX5_bytesIn_11 rfl ?_
    refine nx_sipush (by decide +kernel) dX5_bytesIn_12 rfl ?_
    refine nx_iand dX5_bytesIn_15 rfl ?_
    refine nx_seq (C1 := fun s2 : Int32 => .inl (22, [some (.int a1), some (.int s2), some (.int s1.2)], [], M)) ?_ (fun s2 => ?_)
    · refine nx_if_eq (t := 22) dX5_bytesIn_16 (by decide) rfl ?_ ?_
      · obtain ⟨_, _⟩ := s1
        exact nx_leaf rfl
      · refine nx_iinc [some (.int a1), some (.int (s1.1 + iz 1)), some (.int s1.2)] dX5_bytesIn_19 rfl rfl (Nat.le_of_ble_eq_true rfl) rfl rfl ?_
        obtain ⟨_, _⟩ := s1
        exact nx_leaf rfl
    refine nx_iinc [some (.int a1), some (.int s2), some (.int (s1.2 + iz (-8)))] dX5_bytesIn_22 rfl rfl (Nat.le_of_ble_eq_true rfl) rfl rfl ?_
    refine nx_goto (q := 5) dX5_bytesIn_25 (by decide) ?_
    obtain ⟨_, _⟩ := s1
    exact nx_leaf rfl
set_option maxRecDepth 4000 in
theorem jT_bytesIn {Γ : nx_G} {M : nx_M} (u : Nat) (a1 : Int32)   (X : nx_X) (Z : nx_Z) : nx_J Γ X (RX5, cX5_bytesIn, 3, (some .int), "bytesIn", 1) Z (fun r0 : Int32 => .inr (some (.int r0), M)) (.inl (0, [some (.int a1), none, none], [], M)) (fT_bytesIn u a1) := by
  unfold fT_bytesIn
  refine nx_iconst dX5_bytesIn_0 rfl ?_
  refine nx_istore_n [some (.int a1), some (.int (iz 0)), none] dX5_bytesIn_1 rfl (Nat.le_of_ble_eq_true rfl) rfl rfl ?_
  refine nx_bipush (by decide +kernel) dX5_bytesIn_2 rfl ?_
  refine nx_istore_n [some (.int a1), some (.int (iz 0)), some (.int (iz 24))] dX5_bytesIn_4 rfl (Nat.le_of_ble_eq_true rfl) rfl rfl ?_
  refine nx_seq (C1 := fun e3 : Int32 => .inl (28, [some (.int a1), some (.int e3), none], [], M)) (nx_loop (C1 := fun s1 : Int32 × Int32 => .inl (5, [some (.int a1), some (.int s1.1), some (.int s1.2)], [], M)) (fun s1 => jT_bytesIn_5  a1 X Z s1) ((iz 0), (iz 24))) (fun e3 => ?_)
  refine nx_iload_n rfl dX5_bytesIn_28 rfl ?_
  exact nx_iret dX5_bytesIn_29 rfl rfl
theorem cT_bytesIn (l : Launch) {Γ : nx_G} {M : nx_M} {u : Nat} {a1 : Int32} {r : Int32}  (h : fT_bytesIn u a1 = some r) : nx_Ct l Γ 1 yX5_bytesIn cX5_bytesIn 3 (some .int) [.int a1] M (some (.int r), M) :=
  nx_ct (out := fun r0 : Int32 => (some (.int r0), M)) [some (.int a1), none, none] pn_RX5 h (Nat.le_of_ble_eq_true rfl) rfl (fun X Z _ => jT_bytesIn  u a1 X Z)
theorem dX5_take_0 : decode cX5_take 0 = .ok (.bipush 24, 2) := by decide +kernel
theorem dX5_take_2 : decode cX5_take 2 = .ok (.istore_n 2, 1) := by decide +kernel
theorem dX5_take_3 : decode cX5_take 3 = .ok (.iload_n 2, 1) := by decide +kernel
theorem dX5_take_4 : decode cX5_take 4 = .ok (.ifCond .lt 51, 3) := by decide +kernel
theorem dX5_take_7 : decode cX5_take 7 = .ok (.iload_n 1, 1) := by decide +kernel
theorem dX5_take_8 : decode cX5_take 8 = .ok (.iload_n 2, 1) := by decide +kernel
theorem dX5_take_9 : decode cX5_take 9 = .ok (.iushr, 1) := by decide +kernel
theorem dX5_take_10 : decode cX5_take 10 = .ok (.sipush 255, 3) := by decide +kernel
theorem dX5_take_13 : decode cX5_take 13 = .ok (.iand, 1) := by decide +kernel
theorem dX5_take_14 : decode cX5_take 14 = .ok (.istore_n 3, 1) := by decide +kernel
theorem dX5_take_15 : decode cX5_take 15 = .ok (.iload_n 3, 1) := by decide +kernel
theorem dX5_take_16 : decode cX5_take 16 = .ok (.ifCond .eq 33, 3) := by decide +kernel
theorem dX5_take_19 : decode cX5_take 19 = .ok (.aload_n 0, 1) := by decide +kernel
theorem dX5_take_20 : decode cX5_take 20 = .ok (.getfield 15, 3) := by decide +kernel
theorem dX5_take_23 : decode cX5_take 23 = .ok (.sipush 240, 3) := by decide +kernel
theorem dX5_take_26 : decode cX5_take 26 = .ok (.if_icmp .ge 23, 3) := by decide +kernel
theorem dX5_take_29 : decode cX5_take 29 = .ok (.aload_n 0, 1) := by decide +kernel
theorem dX5_take_30 : decode cX5_take 30 = .ok (.getfield 11, 3) := by decide +kernel
theorem dX5_take_33 : decode cX5_take 33 = .ok (.aload_n 0, 1) := by decide +kernel
theorem dX5_take_34 : decode cX5_take 34 = .ok (.getfield 15, 3) := by decide +kernel
theorem dX5_take_37 : decode cX5_take 37 = .ok (.iload_n 3, 1) := by decide +kernel
theorem dX5_take_38 : decode cX5_take 38 = .ok (.iastore, 1) := by decide +kernel
theorem dX5_take_39 : decode cX5_take 39 = .ok (.aload_n 0, 1) := by decide +kernel
theorem dX5_take_40 : decode cX5_take 40 = .ok (.dup, 1) := by decide +kernel
theorem dX5_take_41 : decode cX5_take 41 = .ok (.getfield 15, 3) := by decide +kernel
theorem dX5_take_44 : decode cX5_take 44 = .ok (.iconst 1, 1) := by decide +kernel
theorem dX5_take_45 : decode cX5_take 45 = .ok (.iadd, 1) := by decide +kernel
theorem dX5_take_46 : decode cX5_take 46 = .ok (.putfield 15, 3) := by decide +kernel
theorem dX5_take_49 : decode cX5_take 49 = .ok (.iinc 2 (-8), 3) := by decide +kernel
theorem dX5_take_52 : decode cX5_take 52 = .ok (.goto (-49), 3) := by decide +kernel
theorem dX5_take_55 : decode cX5_take 55 = .ok (.return_, 1) := by decide +kernel
def fT_take_3 (a1 : Int32) (s1 : Int32 × pS) : Option ((Int32 × pS) ⊕ (pS)) :=
  if s1.1 < iz 0 then
    some (.inr s1.2)
  else
    (if ((a1.toUInt32 >>> (s1.1.toUInt32 &&& Int32.toUInt32 31)).toInt32 &&& (iz 255)) = iz 0 then
       some s1.2
     else
       if (iz 240) ≤ (s1.2 0 0) then
         some s1.2
       else
         (tWr s1.2 1 (s1.2 0 0) ((a1.toUInt32 >>> (s1.1.toUInt32 &&& Int32.toUInt32 31)).toInt32 &&& (iz 255))).bind fun g2 =>
         (some (tFs g2 0 ((g2 0 0) + (iz 1)))).bind fun g3 =>
         some g3 : Option (pS)).bind fun s4 =>
    some (.inl ((s1.1 + iz (-8)), s4))
def fT_take (u : Nat) (g : pS) (a1 : Int32) : Option (pS) :=
  (nx_iter u (fT_take_3 a1) ((iz 24), g)).bind fun e5 =>
  some e5
set_option maxRecDepth 4000 in
theorem jT_take_3 {Γ : nx_G} {M0 : nx_M} {t p : Nat} (hp : t + 4 < p) (a1 : Int32)   (X : nx_X) (Z : nx_Z) (s1 : Int32 × pS) : nx_J Γ X (RX5, cX5_take, 4, none, "take", 1) Z (Sum.elim (fun s1 : Int32 × pS => .inl (3, [some (.ref t), some (.int a1), some (.int s1.1), none], [], (tW Γ M0 t p s1.2))) (fun e5 : pS => .inl (55, [some (.ref t), some (.int a1), none, none], [], (tW Γ M0 t p e5)))) (.inl (3, [some (.ref t), some (.int a1), some (.int s1.1), none], [], (tW Γ M0 t p s1.2))) (fT_take_3 a1 s1) := by
  unfold fT_take_3
  refine nx_iload_n rfl dX5_take_3 rfl ?_
  refine nx_if_lt (t := 55) dX5_take_4 (by decide) rfl ?_ ?_
  · refine nx_weak (ls' := [some (.ref t), some (.int a1), none, none]) (nx_wk_s (nx_wk_s (nx_wk_n (nx_wk_n nx_wk_e)))) ?_
    obtain ⟨_, _⟩ := s1
    exact nx_leaf rfl
  · refine nx_iload_n rfl dX5_take_7 rfl ?_
    refine nx_iload_n rfl dX5_take_8 rfl ?_
    refine nx_iushr dX5_take_9 rfl ?_
    refine nx_sipush (by decide +kernel) dX5_take_10 rfl ?_
    refine nx_iand dX5_take_13 rfl ?_
    refine nx_istore_n [some (.ref t), some (.int a1), some (.int s1.1), some (.int ((a1.toUInt32 >>> (s1.1.toUInt32 &&& Int32.toUInt32 31)).toInt32 &&& (iz 255)))] dX5_take_14 rfl (Nat.le_of_ble_eq_true rfl) rfl rfl ?_
    refine nx_iload_n rfl dX5_take_15 rfl ?_
    refine nx_seq (C1 := fun s4 : pS => .inl (49, [some (.ref t), some (.int a1), some (.int s1.1), some (.int ((a1.toUInt32 >>> (s1.1.toUInt32 &&& Int32.toUInt32 31)).toInt32 &&& (iz 255)))], [], (tW Γ M0 t p s4))) ?_ (fun s4 => ?_)
    · refine nx_if_eq (t := 49) dX5_take_16 (by decide) rfl ?_ ?_
      · obtain ⟨_, _⟩ := s1
        exact nx_leaf rfl
      · refine nx_aload_n rfl dX5_take_19 rfl ?_
        refine nx_getf fl_5_15 tW_t rfl dX5_take_20 rfl ?_
        refine nx_sipush (by decide +kernel) dX5_take_23 rfl ?_
        refine nx_icmp_ge (t := 49) dX5_take_26 (by decide) rfl ?_ ?_
        · obtain ⟨_, _⟩ := s1
          exact nx_leaf rfl
        · refine nx_aload_n rfl dX5_take_29 rfl ?_
          refine nx_getf fl_5_11 tW_t rfl dX5_take_30 rfl ?_
          refine nx_aload_n rfl dX5_take_33 rfl ?_
          refine nx_getf fl_5_15 tW_t rfl dX5_take_34 rfl ?_
          refine nx_iload_n rfl dX5_take_37 rfl ?_
          refine t_iast hp 1 (by decide) dX5_take_38 rfl (fun g2 => ?_)
          refine nx_aload_n rfl dX5_take_39 rfl ?_
          refine nx_dup rfl dX5_take_40 rfl ?_
          refine nx_getf fl_5_15 tW_t rfl dX5_take_41 rfl ?_
          refine nx_iconst dX5_take_44 rfl ?_
          refine nx_iadd dX5_take_45 rfl ?_
          refine t_put (k := 0) (Or.inl fl_5_15) ft_5_1 tW_t rfl rfl (Nat.le_of_ble_eq_true rfl) (tW_fld hp t _ (Or.inl ⟨by decide, rfl, rfl⟩)) dX5_take_46 rfl (fun g3 => ?_)
          obtain ⟨_, _⟩ := s1
          exact nx_leaf rfl
    refine nx_iinc [some (.ref t), some (.int a1), some (.int (s1.1 + iz (-8))), some (.int ((a1.toUInt32 >>> (s1.1.toUInt32 &&& Int32.toUInt32 31)).toInt32 &&& (iz 255)))] dX5_take_49 rfl rfl (Nat.le_of_ble_eq_true rfl) rfl rfl ?_
    refine nx_goto (q := 3) dX5_take_52 (by decide) ?_
    refine nx_weak (ls' := [some (.ref t), some (.int a1), some (.int (s1.1 + iz (-8))), none]) (nx_wk_s (nx_wk_s (nx_wk_s (nx_wk_n nx_wk_e)))) ?_
    obtain ⟨_, _⟩ := s1
    exact nx_leaf rfl
set_option maxRecDepth 4000 in
theorem jT_take {Γ : nx_G} {M0 : nx_M} {t p : Nat} (hp : t + 4 < p) (u : Nat) (g : pS) (a1 : Int32)   (X : nx_X) (Z : nx_Z) : nx_J Γ X (RX5, cX5_take, 4, none, "take", 1) Z (fun r0 : pS => .inr (none, (tW Γ M0 t p r0))) (.inl (0, [some (.ref t), some (.int a1), none, none], [], (tW Γ M0 t p g))) (fT_take u g a1) := by
  unfold fT_take
  refine nx_bipush (by decide +kernel) dX5_take_0 rfl ?_
  refine nx_istore_n [some (.ref t), some (.int a1), some (.int (iz 24)), none] dX5_take_2 rfl (Nat.le_of_ble_eq_true rfl) rfl rfl ?_
  refine nx_seq (C1 := fun e5 : pS => .inl (55, [some (.ref t), some (.int a1), none, none], [], (tW Γ M0 t p e5))) (nx_loop (C1 := fun s1 : Int32 × pS => .inl (3, [some (.ref t), some (.int a1), some (.int s1.1), none], [], (tW Γ M0 t p s1.2))) (fun s1 => jT_take_3 hp a1 X Z s1) ((iz 24), g)) (fun e5 => ?_)
  exact nx_vret dX5_take_55 rfl rfl
theorem cT_take (l : Launch) {Γ : nx_G} {M0 : nx_M} {t p : Nat} (hp : t + 4 < p) {u : Nat} {g : pS} {a1 : Int32} {r : pS}  (h : fT_take u g a1 = some r) : nx_Ct l Γ 1 yX5_take cX5_take 4 none [.ref t, .int a1] (tW Γ M0 t p g) (none, (tW Γ M0 t p r)) :=
  nx_ct (out := fun r0 : pS => (none, (tW Γ M0 t p r0))) [some (.ref t), some (.int a1), none, none] pn_RX5 h (Nat.le_of_ble_eq_true rfl) rfl (fun X Z _ => jT_take hp u g a1 X Z)
