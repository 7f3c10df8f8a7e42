theorem dX0_init_0 : decode cX0_init 0 = .ok (.aload_n 0, 1) := by decide +kernel
theorem dX0_init_1 : decode cX0_init 1 = .ok (.invokespecial 3, 3) := by decide +kernel
theorem dX0_init_4 : decode cX0_init 4 = .ok (.aload_n 0, 1) := by decide +kernel
theorem dX0_init_5 : decode cX0_init 5 = .ok (.bipush 13, 2) := by decide +kernel
theorem dX0_init_7 : decode cX0_init 7 = .ok (.anewarray 11, 3) := by decide +kernel
theorem dX0_init_10 : decode cX0_init 10 = .ok (.putfield 13, 3) := by decide +kernel
theorem dX0_init_13 : decode cX0_init 13 = .ok (.return_, 1) := by decide +kernel
def fA_init (u : Nat) (Γ : nx_G) (D : nx_M) (x : Nat) : Option (nx_M) :=
  (some (nx_al D (.inl (Γ.2.2.2.1 2, 13, .inr (.inr (.inr (.inr (fun _ => none)))))) 13)).bind fun D1 =>
  (gPut D1 x 0 0 (.ref D.2.1)).bind fun D2 =>
  some D2
set_option maxRecDepth 4000 in
theorem jA_init {Γ : nx_G} {M0 : Nat → Option va_E} (u : Nat) (D : nx_M) (x : Nat)   (X : nx_X) (Z : nx_Z) : nx_J Γ X (RX0, cX0_init, 1, none, "<init>", 1) Z (fun r0 : nx_M => .inr (none, (ov M0 r0))) (.inl (0, [some (.ref x)], [], (ov M0 D))) (fA_init u Γ D x) := by
  unfold fA_init
  refine nx_aload_n rfl dX0_init_0 rfl ?_
  refine nx_objInit wd_315 wd_214 wd_215 (Nat.le_of_ble_eq_true rfl) (Nat.le_of_ble_eq_true rfl) dX0_init_1 rfl ?_
  refine nx_aload_n rfl dX0_init_4 rfl ?_
  refine nx_bipush (by decide +kernel) dX0_init_5 rfl ?_
  refine g_newQ (t := 2) (Or.inl rfl) wd_316 rfl (by decide +kernel) (by decide +kernel) (Nat.le_of_ble_eq_true rfl) dX0_init_7 rfl (fun D1 _ => ?_)
  refine g_putF fl_0_13 ft_0_0 ⟨TX0, 6, rfl⟩ rfl rfl rfl dX0_init_10 rfl (fun D2 => ?_)
  exact nx_vret dX0_init_13 rfl rfl
theorem cA_init (l : Launch) {Γ : nx_G} {M0 : Nat → Option va_E} {u : Nat} {D : nx_M} {x : Nat} {r : nx_M}  (h : fA_init u Γ D x = some r) : nx_Ct l Γ 1 yX0_init cX0_init 1 none [.ref x] (ov M0 D) (none, (ov M0 r)) :=
  nx_ct (out := fun r0 : nx_M => (none, (ov M0 r0))) [some (.ref x)] pn_RX0 h (Nat.le_of_ble_eq_true rfl) rfl (fun X Z _ => jA_init  u D x X Z)
theorem dX6_init_0 : decode cX6_init 0 = .ok (.aload_n 0, 1) := by decide +kernel
theorem dX6_init_1 : decode cX6_init 1 = .ok (.invokespecial 5, 3) := by decide +kernel
theorem dX6_init_4 : decode cX6_init 4 = .ok (.aload_n 0, 1) := by decide +kernel
theorem dX6_init_5 : decode cX6_init 5 = .ok (.sipush 514, 3) := by decide +kernel
theorem dX6_init_8 : decode cX6_init 8 = .ok (.newarray .int, 2) := by decide +kernel
theorem dX6_init_10 : decode cX6_init 10 = .ok (.putfield 11, 3) := by decide +kernel
theorem dX6_init_13 : decode cX6_init 13 = .ok (.return_, 1) := by decide +kernel
def fW_init (u : Nat) (Γ : nx_G) (D : nx_M) (x : Nat) : Option (nx_M) :=
  (some (nx_al D (.inl (Γ.2.2.2.1 0, 514, .inl (fun _ => 0))) 514)).bind fun D1 =>
  (gPut D1 x 6 0 (.ref D.2.1)).bind fun D2 =>
  some D2
set_option maxRecDepth 4000 in
theorem jW_init {Γ : nx_G} {M0 : Nat → Option va_E} (u : Nat) (D : nx_M) (x : Nat)   (X : nx_X) (Z : nx_Z) : nx_J Γ X (RX6, cX6_init, 1, none, "<init>", 1) Z (fun r0 : nx_M => .inr (none, (ov M0 r0))) (.inl (0, [some (.ref x)], [], (ov M0 D))) (fW_init u Γ D x) := by
  unfold fW_init
  refine nx_aload_n rfl dX6_init_0 rfl ?_
  refine nx_objInit wd_285 wd_214 wd_215 (Nat.le_of_ble_eq_true rfl) (Nat.le_of_ble_eq_true rfl) dX6_init_1 rfl ?_
  refine nx_aload_n rfl dX6_init_4 rfl ?_
  refine nx_sipush (by decide +kernel) dX6_init_5 rfl ?_
  refine g_newI wd_241 (by decide +kernel) (by decide +kernel) (Nat.le_of_ble_eq_true rfl) dX6_init_8 rfl (fun D1 _ => ?_)
  refine g_putF fl_6_11 ft_6_0 ⟨TX6, 1, rfl⟩ rfl rfl rfl dX6_init_10 rfl (fun D2 => ?_)
  exact nx_vret dX6_init_13 rfl rfl
theorem cW_init (l : Launch) {Γ : nx_G} {M0 : Nat → Option va_E} {u : Nat} {D : nx_M} {x : Nat} {r : nx_M}  (h : fW_init u Γ D x = some r) : nx_Ct l Γ 1 yX6_init cX6_init 1 none [.ref x] (ov M0 D) (none, (ov M0 r)) :=
  nx_ct (out := fun r0 : nx_M => (none, (ov M0 r0))) [some (.ref x)] pn_RX6 h (Nat.le_of_ble_eq_true rfl) rfl (fun X Z _ => jW_init  u D x X Z)
theorem dX0_level_0 : decode cX0_level 0 = .ok (.iconst 0, 1) := by decide +kernel
theorem dX0_level_1 : decode cX0_level 1 = .ok (.iload_n 1, 1) := by decide +kernel
theorem dX0_level_2 : decode cX0_level 2 = .ok (.bipush 12, 2) := by decide +kernel
theorem dX0_level_4 : decode cX0_level 4 = .ok (.invokestatic 17, 3) := by decide +kernel
theorem dX0_level_7 : decode cX0_level 7 = .ok (.invokestatic 23, 3) := by decide +kernel
theorem dX0_level_10 : decode cX0_level 10 = .ok (.istore_n 2, 1) := by decide +kernel
theorem dX0_level_11 : decode cX0_level 11 = .ok (.aload_n 0, 1) := by decide +kernel
theorem dX0_level_12 : decode cX0_level 12 = .ok (.getfield 13, 3) := by decide +kernel
theorem dX0_level_15 : decode cX0_level 15 = .ok (.iload_n 2, 1) := by decide +kernel
theorem dX0_level_16 : decode cX0_level 16 = .ok (.aaload, 1) := by decide +kernel
theorem dX0_level_17 : decode cX0_level 17 = .ok (.ifnonnull 16, 3) := by decide +kernel
theorem dX0_level_20 : decode cX0_level 20 = .ok (.aload_n 0, 1) := by decide +kernel
theorem dX0_level_21 : decode cX0_level 21 = .ok (.getfield 13, 3) := by decide +kernel
theorem dX0_level_24 : decode cX0_level 24 = .ok (.iload_n 2, 1) := by decide +kernel
theorem dX0_level_25 : decode cX0_level 25 = .ok (.new 11, 3) := by decide +kernel
theorem dX0_level_28 : decode cX0_level 28 = .ok (.dup, 1) := by decide +kernel
theorem dX0_level_29 : decode cX0_level 29 = .ok (.invokespecial 26, 3) := by decide +kernel
theorem dX0_level_32 : decode cX0_level 32 = .ok (.aastore, 1) := by decide +kernel
theorem dX0_level_33 : decode cX0_level 33 = .ok (.aload_n 0, 1) := by decide +kernel
theorem dX0_level_34 : decode cX0_level 34 = .ok (.getfield 13, 3) := by decide +kernel
theorem dX0_level_37 : decode cX0_level 37 = .ok (.iload_n 2, 1) := by decide +kernel
theorem dX0_level_38 : decode cX0_level 38 = .ok (.aaload, 1) := by decide +kernel
theorem dX0_level_39 : decode cX0_level 39 = .ok (.areturn, 1) := by decide +kernel
def fA_level (u : Nat) (Γ : nx_G) (D : nx_M) (x : Nat) (a1 : Int32) : Option (Option Nat × nx_M) :=
  (gR D x 0 0).bind fun q1 =>
  (qA Γ 2 D q1 (if (iz 0) < (if (iz 12) < a1 then (iz 12) else a1) then (if (iz 12) < a1 then (iz 12) else a1) else (iz 0))).bind fun r2 =>
  (if r2 = none then
     (gR D x 0 0).bind fun q3 =>
     (some (nx_al D (.inr (6, [.null])) 1)).bind fun D4 =>
     (fW_init u Γ D4 D.2.1).bind fun D5 =>
     (qAw Γ 2 6 D5 q3 (if (iz 0) < (if (iz 12) < a1 then (iz 12) else a1) then (if (iz 12) < a1 then (iz 12) else a1) else (iz 0)) D.2.1).bind fun D6 =>
     some D6
   else
     some D : Option (nx_M)).bind fun s7 =>
  (gR s7 x 0 0).bind fun q8 =>
  (qA Γ 2 s7 q8 (if (iz 0) < (if (iz 12) < a1 then (iz 12) else a1) then (if (iz 12) < a1 then (iz 12) else a1) else (iz 0))).bind fun r9 =>
  some (r9, s7)
set_option maxRecDepth 4000 in
theorem jA_level {Γ : nx_G} {M0 : Nat → Option va_E} (u : Nat) (D : nx_M) (x : Nat) (a1 : Int32)   (X : nx_X) (Z : nx_Z) : nx_J Γ X (RX0, cX0_level, 3, (some (.object "LateStamps$World")), "level", 2) Z (fun r0 : Option Nat × nx_M => .inr (some (va_rf r0.1), (ov M0 r0.2))) (.inl (0, [some (.ref x), some (.int a1), none], [], (ov M0 D))) (fA_level u Γ D x a1) := by
  unfold fA_level
  refine nx_iconst dX0_level_0 rfl ?_
  refine nx_iload_n rfl dX0_level_1 rfl ?_
  refine nx_bipush (by decide +kernel) dX0_level_2 rfl ?_
  refine nx_min wd_887 wd_645 wd_206 wd_646 (Nat.le_of_ble_eq_true rfl) (Nat.le_of_ble_eq_true rfl) dX0_level_4 rfl ?_
  refine nx_max wd_888 wd_685 wd_206 wd_686 (Nat.le_of_ble_eq_true rfl) (Nat.le_of_ble_eq_true rfl) dX0_level_7 rfl ?_
  refine nx_istore_n [some (.ref x), some (.int a1), some (.int (if (iz 0) < (if (iz 12) < a1 then (iz 12) else a1) then (if (iz 12) < a1 then (iz 12) else a1) else (iz 0)))] dX0_level_10 rfl (Nat.le_of_ble_eq_true rfl) rfl rfl ?_
  refine nx_aload_n rfl dX0_level_11 rfl ?_
  refine g_getr (Or.inl fl_0_13) dX0_level_12 rfl (fun q1 => ?_)
  refine nx_iload_n rfl dX0_level_15 rfl ?_
  refine g_aald (t := 2) rfl dX0_level_16 rfl (fun r2 => ?_)
  refine nx_seq (C1 := fun s7 : nx_M => .inl (33, [some (.ref x), some (.int a1), some (.int (if (iz 0) < (if (iz 12) < a1 then (iz 12) else a1) then (if (iz 12) < a1 then (iz 12) else a1) else (iz 0)))], [], (ov M0 s7))) ?_ (fun s7 => ?_)
  · refine nx_ifnonnull (t := 33) dX0_level_17 (by decide) rfl ?_ ?_
    · exact nx_leaf rfl
    · refine nx_aload_n rfl dX0_level_20 rfl ?_
      refine g_getr (Or.inl fl_0_13) dX0_level_21 rfl (fun q3 => ?_)
      refine nx_iload_n rfl dX0_level_24 rfl ?_
      refine g_new cn_0_11 dX0_level_25 rfl (fun D4 _ => ?_)
      refine nx_dup rfl dX0_level_28 rfl ?_
      refine nx_callI (mem := fun r => ov M0 r) [] cw_0_26 wd_283 rfl (fun r e => cW_init X.2.1 e) rfl rfl (Nat.le_of_ble_eq_true rfl) (Nat.le_of_ble_eq_true rfl) dX0_level_29 rfl (fun D5 => ?_)
      refine g_aast (t := 2) (ci := 6) rfl rfl dX0_level_32 rfl (fun D6 => ?_)
      exact nx_leaf rfl
  refine nx_aload_n rfl dX0_level_33 rfl ?_
  refine g_getr (Or.inl fl_0_13) dX0_level_34 rfl (fun q8 => ?_)
  refine nx_iload_n rfl dX0_level_37 rfl ?_
  refine g_aald (t := 2) rfl dX0_level_38 rfl (fun r9 => ?_)
  exact nx_aret (r := r9) dX0_level_39 rfl rfl
theorem cA_level (l : Launch) {Γ : nx_G} {M0 : Nat → Option va_E} {u : Nat} {D : nx_M} {x : Nat} {a1 : Int32} {r : Option Nat × nx_M}  (h : fA_level u Γ D x a1 = some r) : nx_Ct l Γ 2 yX0_level cX0_level 3 (some (.object "LateStamps$World")) [.ref x, .int a1] (ov M0 D) (some (va_rf r.1), (ov M0 r.2)) :=
  nx_ct (out := fun r0 : Option Nat × nx_M => (some (va_rf r0.1), (ov M0 r0.2))) [some (.ref x), some (.int a1), none] pn_RX0 h (Nat.le_of_ble_eq_true rfl) rfl (fun X Z _ => jA_level  u D x a1 X Z)
theorem dX6_become_0 : decode cX6_become 0 = .ok (.aload_n 1, 1) := by decide +kernel
theorem dX6_become_1 : decode cX6_become 1 = .ok (.getfield 11, 3) := by decide +kernel
theorem dX6_become_4 : decode cX6_become 4 = .ok (.iconst 0, 1) := by decide +kernel
theorem dX6_become_5 : decode cX6_become 5 = .ok (.aload_n 0, 1) := by decide +kernel
theorem dX6_become_6 : decode cX6_become 6 = .ok (.getfield 11, 3) := by decide +kernel
theorem dX6_become_9 : decode cX6_become 9 = .ok (.iconst 0, 1) := by decide +kernel
theorem dX6_become_10 : decode cX6_become 10 = .ok (.sipush 514, 3) := by decide +kernel
theorem dX6_become_13 : decode cX6_become 13 = .ok (.invokestatic 27, 3) := by decide +kernel
theorem dX6_become_16 : decode cX6_become 16 = .ok (.return_, 1) := by decide +kernel
def fW_become (_u : Nat) (Γ : nx_G) (D : nx_M) (x : Nat) (a1 : Nat) : Option nx_M := (wGet Γ D x).bind fun cf => (wGet Γ D a1).bind fun cg => some (wPut Γ D cf.1 (va_cpy cg.2 cf.2 0 0 514))
theorem wb_1 : Cond.methodLink RX6 27 arraycopyName ∈ nx_TB := nx_mem 641 (by decide +kernel) (by decide +kernel)
theorem wb_2 : Cond.native arraycopyName ∈ nx_TB := nx_mem 643 (by decide +kernel) (by decide +kernel)
theorem wb_3 : Cond.static arraycopyName ∈ nx_TB := nx_mem 642 (by decide +kernel) (by decide +kernel)
theorem wb_4 : Cond.initialized "java/lang/System" ∈ nx_TB := nx_mem 205 (by decide +kernel) (by decide +kernel)
theorem jW_become {Γ : nx_G} {M0 : Nat → Option va_E} (u : Nat) (D : nx_M) (x : Nat) (a1 : Nat) (X : nx_X) (Z : nx_Z) : nx_J Γ X (RX6, cX6_become, 2, none, "become", 1) Z (fun r0 : nx_M => .inr (none, ov M0 r0)) (.inl (0, [some (.ref x), some (.ref a1)], [], ov M0 D)) (fW_become u Γ D x a1) := by
  unfold fW_become
  refine nx_guard fun cf hcf => ?_
  refine nx_guard fun cg hcg => ?_
  obtain ⟨g1, g2, g3⟩ := wGet_spec hcf
  obtain ⟨e1, e2, e3⟩ := wGet_spec hcg
  refine nx_aload_n rfl dX6_become_0 rfl ?_
  refine nx_getf fl_6_11 (ov_some e1) rfl dX6_become_1 rfl ?_
  refine nx_iconst dX6_become_4 rfl ?_
  refine nx_aload_n rfl dX6_become_5 rfl ?_
  refine nx_getf fl_6_11 (ov_some g1) rfl dX6_become_6 rfl ?_
  refine nx_iconst dX6_become_9 rfl ?_
  refine nx_sipush (by decide +kernel) dX6_become_10 rfl ?_
  refine nx_copy wb_1 wb_2 wb_3 wb_4 (ov_some e2) (ov_some g2) (by decide +kernel) (by decide +kernel) (Nat.le_of_ble_eq_true rfl) (Nat.le_of_ble_eq_true rfl) dX6_become_13 rfl ?_
  rw [ov_put]
  exact nx_vret dX6_become_16 rfl rfl
theorem cW_become (l : Launch) {Γ : nx_G} {M0 : Nat → Option va_E} {u : Nat} {D : nx_M} {x : Nat} {a1 : Nat} {r : nx_M} (h : fW_become u Γ D x a1 = some r) : nx_Ct l Γ 1 yX6_become cX6_become 2 none [.ref x, .ref a1] (ov M0 D) (none, ov M0 r) :=
  nx_ct (out := fun r0 : nx_M => (none, ov M0 r0)) [some (.ref x), some (.ref a1)] pn_RX6 h (Nat.le_of_ble_eq_true rfl) rfl (fun X Z _ => jW_become u D x a1 X Z)

theorem dX0_copyOf_0 : decode cX0_copyOf 0 = .ok (.aload_n 0, 1) := by decide +kernel
theorem dX0_copyOf_1 : decode cX0_copyOf 1 = .ok (.iconst 0, 1) := by decide +kernel
theorem dX0_copyOf_2 : decode cX0_copyOf 2 = .ok (.invokevirtual 27, 3) := by decide +kernel
theorem dX0_copyOf_5 : decode cX0_copyOf 5 = .ok (.astore_n 2, 1) := by decide +kernel
theorem dX0_copyOf_6 : decode cX0_copyOf 6 = .ok (.aload_n 2, 1) := by decide +kernel
theorem dX0_copyOf_7 : decode cX0_copyOf 7 = .ok (.aload_n 1, 1) := by decide +kernel
theorem dX0_copyOf_8 : decode cX0_copyOf 8 = .ok (.invokevirtual 31, 3) := by decide +kernel
theorem dX0_copyOf_11 : decode cX0_copyOf 11 = .ok (.aload_n 2, 1) := by decide +kernel
theorem dX0_copyOf_12 : decode cX0_copyOf 12 = .ok (.areturn, 1) := by decide +kernel
def fA_copyOf (u : Nat) (Γ : nx_G) (D : nx_M) (x : Nat) (a1 : Nat) : Option (Option Nat × nx_M) :=
  (gAt D x 0 (fA_level u Γ D x (iz 0))).bind fun p1 =>
  (p1.1).bind fun q2 =>
  (gAt p1.2 q2 6 (fW_become u Γ p1.2 q2 a1)).bind fun D3 =>
  some ((some q2), D3)
set_option maxRecDepth 4000 in
theorem jA_copyOf {Γ : nx_G} {M0 : Nat → Option va_E} (u : Nat) (D : nx_M) (x : Nat) (a1 : Nat)   (X : nx_X) (Z : nx_Z) : nx_J Γ X (RX0, cX0_copyOf, 3, (some (.object "LateStamps$World")), "copyOf", 3) Z (fun r0 : Option Nat × nx_M => .inr (some (va_rf r0.1), (ov M0 r0.2))) (.inl (0, [some (.ref x), some (.ref a1), none], [], (ov M0 D))) (fA_copyOf u Γ D x a1) := by
  unfold fA_copyOf
  refine nx_aload_n rfl dX0_copyOf_0 rfl ?_
  refine nx_iconst dX0_copyOf_1 rfl ?_
  refine g_callGr [.int (iz 0)] (fun r => va_rf r.1) (fun r => r.2) cw_0_27 cv_X0_level (fun r e => cA_level X.2.1 e) rfl rfl (Nat.le_of_ble_eq_true rfl) (Nat.le_of_ble_eq_true rfl) dX0_copyOf_2 rfl (fun p1 => ?_)
  refine nx_guard (fun q2 hq2 => ?_)
  rw [hq2]
  refine nx_astore_n [some (.ref x), some (.ref a1), some (.ref q2)] dX0_copyOf_5 rfl (Nat.le_of_ble_eq_true rfl) rfl rfl ?_
  refine nx_aload_n rfl dX0_copyOf_6 rfl ?_
  refine nx_aload_n rfl dX0_copyOf_7 rfl ?_
  refine g_callGv [.ref a1] (fun r => r) cw_0_31 cv_X6_become (fun r e => cW_become X.2.1 e) rfl rfl (Nat.le_of_ble_eq_true rfl) (Nat.le_of_ble_eq_true rfl) dX0_copyOf_8 rfl (fun D3 => ?_)
  refine nx_aload_n rfl dX0_copyOf_11 rfl ?_
  exact nx_aret (r := (some q2)) dX0_copyOf_12 rfl rfl
theorem cA_copyOf (l : Launch) {Γ : nx_G} {M0 : Nat → Option va_E} {u : Nat} {D : nx_M} {x : Nat} {a1 : Nat} {r : Option Nat × nx_M}  (h : fA_copyOf u Γ D x a1 = some r) : nx_Ct l Γ 3 yX0_copyOf cX0_copyOf 3 (some (.object "LateStamps$World")) [.ref x, .ref a1] (ov M0 D) (some (va_rf r.1), (ov M0 r.2)) :=
  nx_ct (out := fun r0 : Option Nat × nx_M => (some (va_rf r0.1), (ov M0 r0.2))) [some (.ref x), some (.ref a1), none] pn_RX0 h (Nat.le_of_ble_eq_true rfl) rfl (fun X Z _ => jA_copyOf  u D x a1 X Z)
theorem dX0_spareOf_0 : decode cX0_spareOf 0 = .ok (.aload_n 0, 1) := by decide +kernel
theorem dX0_spareOf_1 : decode cX0_spareOf 1 = .ok (.aload_n 1, 1) := by decide +kernel
theorem dX0_spareOf_2 : decode cX0_spareOf 2 = .ok (.invokevirtual 35, 3) := by decide +kernel
theorem dX0_spareOf_5 : decode cX0_spareOf 5 = .ok (.invokevirtual 39, 3) := by decide +kernel
theorem dX0_spareOf_8 : decode cX0_spareOf 8 = .ok (.ireturn, 1) := by decide +kernel
def fA_spareOf (u : Nat) (Γ : nx_G) (D : nx_M) (x : Nat) (a1 : Nat) : Option (Int32 × nx_M) :=
  (gAt D x 0 (fA_copyOf u Γ D x a1)).bind fun p1 =>
  (p1.1).bind fun q2 =>
  (wWr Γ p1.2 q2 (fun f => fW_pruneAll u f)).bind fun p3 =>
  some (p3.1, p3.2)
set_option maxRecDepth 4000 in
theorem jA_spareOf {Γ : nx_G} {M0 : Nat → Option va_E} (u : Nat) (D : nx_M) (x : Nat) (a1 : Nat)   (X : nx_X) (Z : nx_Z) : nx_J Γ X (RX0, cX0_spareOf, 2, (some .int), "spareOf", 4) Z (fun r0 : Int32 × nx_M => .inr (some (.int r0.1), (ov M0 r0.2))) (.inl (0, [some (.ref x), some (.ref a1)], [], (ov M0 D))) (fA_spareOf u Γ D x a1) := by
  unfold fA_spareOf
  refine nx_aload_n rfl dX0_spareOf_0 rfl ?_
  refine nx_aload_n rfl dX0_spareOf_1 rfl ?_
  refine g_callGr [.ref a1] (fun r => va_rf r.1) (fun r => r.2) cw_0_35 cv_X0_copyOf (fun r e => cA_copyOf X.2.1 e) rfl rfl (Nat.le_of_ble_eq_true rfl) (Nat.le_of_ble_eq_true rfl) dX0_spareOf_2 rfl (fun p1 => ?_)
  refine nx_guard (fun q2 hq2 => ?_)
  rw [hq2]
  refine g_callWw [] (fun r => .int r) cw_0_39 cv_X6_pruneAll (fun M1 c f r hw hc e => cW_pruneAll X.2.1 hw hc e) rfl rfl (Nat.le_of_ble_eq_true rfl) (Nat.le_of_ble_eq_true rfl) dX0_spareOf_5 rfl (fun p3 => ?_)
  exact nx_iret dX0_spareOf_8 rfl rfl
theorem cA_spareOf (l : Launch) {Γ : nx_G} {M0 : Nat → Option va_E} {u : Nat} {D : nx_M} {x : Nat} {a1 : Nat} {r : Int32 × nx_M}  (h : fA_spareOf u Γ D x a1 = some r) : nx_Ct l Γ 4 yX0_spareOf cX0_spareOf 2 (some .int) [.ref x, .ref a1] (ov M0 D) (some (.int r.1), (ov M0 r.2)) :=
  nx_ct (out := fun r0 : Int32 × nx_M => (some (.int r0.1), (ov M0 r0.2))) [some (.ref x), some (.ref a1)] pn_RX0 h (Nat.le_of_ble_eq_true rfl) rfl (fun X Z _ => jA_spareOf  u D x a1 X Z)
theorem dX0_sureBy_0 : decode cX0_sureBy 0 = .ok (.aload_n 0, 1) := by decide +kernel
theorem dX0_sureBy_1 : decode cX0_sureBy 1 = .ok (.aload_n 1, 1) := by decide +kernel
theorem dX0_sureBy_2 : decode cX0_sureBy 2 = .ok (.invokevirtual 35, 3) := by decide +kernel
theorem dX0_sureBy_5 : decode cX0_sureBy 5 = .ok (.astore_n 3, 1) := by decide +kernel
theorem dX0_sureBy_6 : decode cX0_sureBy 6 = .ok (.aload_n 3, 1) := by decide +kernel
theorem dX0_sureBy_7 : decode cX0_sureBy 7 = .ok (.iload_n 2, 1) := by decide +kernel
theorem dX0_sureBy_8 : decode cX0_sureBy 8 = .ok (.invokevirtual 43, 3) := by decide +kernel
theorem dX0_sureBy_11 : decode cX0_sureBy 11 = .ok (.pop, 1) := by decide +kernel
theorem dX0_sureBy_12 : decode cX0_sureBy 12 = .ok (.aload_n 3, 1) := by decide +kernel
theorem dX0_sureBy_13 : decode cX0_sureBy 13 = .ok (.iconst 3, 1) := by decide +kernel
theorem dX0_sureBy_14 : decode cX0_sureBy 14 = .ok (.invokevirtual 47, 3) := by decide +kernel
theorem dX0_sureBy_17 : decode cX0_sureBy 17 = .ok (.aload_n 1, 1) := by decide +kernel
theorem dX0_sureBy_18 : decode cX0_sureBy 18 = .ok (.iconst 3, 1) := by decide +kernel
theorem dX0_sureBy_19 : decode cX0_sureBy 19 = .ok (.invokevirtual 47, 3) := by decide +kernel
theorem dX0_sureBy_22 : decode cX0_sureBy 22 = .ok (.iconst (-1), 1) := by decide +kernel
theorem dX0_sureBy_23 : decode cX0_sureBy 23 = .ok (.ixor, 1) := by decide +kernel
theorem dX0_sureBy_24 : decode cX0_sureBy 24 = .ok (.iand, 1) := by decide +kernel
theorem dX0_sureBy_25 : decode cX0_sureBy 25 = .ok (.ireturn, 1) := by decide +kernel
def fA_sureBy (u : Nat) (Γ : nx_G) (D : nx_M) (x : Nat) (a1 : Nat) (a2 : Int32) : Option (Int32 × nx_M) :=
  (gAt D x 0 (fA_copyOf u Γ D x a1)).bind fun p1 =>
  (p1.1).bind fun q2 =>
  (wWr Γ p1.2 q2 (fun f => fW_commitAt u f a2)).bind fun p3 =>
  (wRd Γ p3.2 q2 (fun f => fW_seatsIn u f (iz 3))).bind fun x4 =>
  (wRd Γ p3.2 a1 (fun f => fW_seatsIn u f (iz 3))).bind fun x5 =>
  some ((x4 &&& (x5 ^^^ (iz (-1)))), p3.2)
set_option maxRecDepth 4000 in
theorem jA_sureBy {Γ : nx_G} {M0 : Nat → Option va_E} (u : Nat) (D : nx_M) (x : Nat) (a1 : Nat) (a2 : Int32)   (X : nx_X) (Z : nx_Z) : nx_J Γ X (RX0, cX0_sureBy, 4, (some .int), "sureBy", 5) Z (fun r0 : Int32 × nx_M => .inr (some (.int r0.1), (ov M0 r0.2))) (.inl (0, [some (.ref x), some (.ref a1), some (.int a2), none], [], (ov M0 D))) (fA_sureBy u Γ D x a1 a2) := by
  unfold fA_sureBy
  refine nx_aload_n rfl dX0_sureBy_0 rfl ?_
  refine nx_aload_n rfl dX0_sureBy_1 rfl ?_
  refine g_callGr [.ref a1] (fun r => va_rf r.1) (fun r => r.2) cw_0_35 cv_X0_copyOf (fun r e => cA_copyOf X.2.1 e) rfl rfl (Nat.le_of_ble_eq_true rfl) (Nat.le_of_ble_eq_true rfl) dX0_sureBy_2 rfl (fun p1 => ?_)
  refine nx_guard (fun q2 hq2 => ?_)
  rw [hq2]
  refine nx_astore_n [some (.ref x), some (.ref a1), some (.int a2), some (.ref q2)] dX0_sureBy_5 rfl (Nat.le_of_ble_eq_true rfl) rfl rfl ?_
  refine nx_aload_n rfl dX0_sureBy_6 rfl ?_
  refine nx_iload_n rfl dX0_sureBy_7 rfl ?_
  refine g_callWw [.int a2] (fun r => .int r) cw_0_43 cv_X6_commitAt (fun M1 c f r hw hc e => cW_commitAt X.2.1 hw hc e) rfl rfl (Nat.le_of_ble_eq_true rfl) (Nat.le_of_ble_eq_true rfl) dX0_sureBy_8 rfl (fun p3 => ?_)
  refine nx_pop rfl dX0_sureBy_11 rfl ?_
  refine nx_aload_n rfl dX0_sureBy_12 rfl ?_
  refine nx_iconst dX0_sureBy_13 rfl ?_
  refine g_callWr [.int (iz 3)] (fun r => .int r) cw_0_47 cv_X6_seatsIn (fun M1 c f r hw hc e => cW_seatsIn X.2.1 hw hc e) rfl rfl (Nat.le_of_ble_eq_true rfl) (Nat.le_of_ble_eq_true rfl) dX0_sureBy_14 rfl (fun x4 => ?_)
  refine nx_aload_n rfl dX0_sureBy_17 rfl ?_
  refine nx_iconst dX0_sureBy_18 rfl ?_
  refine g_callWr [.int (iz 3)] (fun r => .int r) cw_0_47 cv_X6_seatsIn (fun M1 c f r hw hc e => cW_seatsIn X.2.1 hw hc e) rfl rfl (Nat.le_of_ble_eq_true rfl) (Nat.le_of_ble_eq_true rfl) dX0_sureBy_19 rfl (fun x5 => ?_)
  refine nx_iconst dX0_sureBy_22 rfl ?_
  refine nx_ixor dX0_sureBy_23 rfl ?_
  refine nx_iand dX0_sureBy_24 rfl ?_
  exact nx_iret dX0_sureBy_25 rfl rfl
theorem cA_sureBy (l : Launch) {Γ : nx_G} {M0 : Nat → Option va_E} {u : Nat} {D : nx_M} {x : Nat} {a1 : Nat} {a2 : Int32} {r : Int32 × nx_M}  (h : fA_sureBy u Γ D x a1 a2 = some r) : nx_Ct l Γ 5 yX0_sureBy cX0_sureBy 4 (some .int) [.ref x, .ref a1, .int a2] (ov M0 D) (some (.int r.1), (ov M0 r.2)) :=
  nx_ct (out := fun r0 : Int32 × nx_M => (some (.int r0.1), (ov M0 r0.2))) [some (.ref x), some (.ref a1), some (.int a2), none] pn_RX0 h (Nat.le_of_ble_eq_true rfl) rfl (fun X Z _ => jA_sureBy  u D x a1 a2 X Z)
theorem dX0_retriesOf_0 : decode cX0_retriesOf 0 = .ok (.aload_n 0, 1) := by decide +kernel
theorem dX0_retriesOf_1 : decode cX0_retriesOf 1 = .ok (.aload_n 1, 1) := by decide +kernel
theorem dX0_retriesOf_2 : decode cX0_retriesOf 2 = .ok (.invokevirtual 35, 3) := by decide +kernel
theorem dX0_retriesOf_5 : decode cX0_retriesOf 5 = .ok (.astore_n 3, 1) := by decide +kernel
theorem dX0_retriesOf_6 : decode cX0_retriesOf 6 = .ok (.iconst 1, 1) := by decide +kernel
theorem dX0_retriesOf_7 : decode cX0_retriesOf 7 = .ok (.istore 4, 2) := by decide +kernel
theorem dX0_retriesOf_9 : decode cX0_retriesOf 9 = .ok (.iload 4, 2) := by decide +kernel
theorem dX0_retriesOf_11 : decode cX0_retriesOf 11 = .ok (.bipush 9, 2) := by decide +kernel
theorem dX0_retriesOf_13 : decode cX0_retriesOf 13 = .ok (.if_icmp .gt 57, 3) := by decide +kernel
theorem dX0_retriesOf_16 : decode cX0_retriesOf 16 = .ok (.aload_n 3, 1) := by decide +kernel
theorem dX0_retriesOf_17 : decode cX0_retriesOf 17 = .ok (.bipush 7, 2) := by decide +kernel
theorem dX0_retriesOf_19 : decode cX0_retriesOf 19 = .ok (.iload_n 2, 1) := by decide +kernel
theorem dX0_retriesOf_20 : decode cX0_retriesOf 20 = .ok (.iconst (-1), 1) := by decide +kernel
theorem dX0_retriesOf_21 : decode cX0_retriesOf 21 = .ok (.iconst (-1), 1) := by decide +kernel
theorem dX0_retriesOf_22 : decode cX0_retriesOf 22 = .ok (.invokevirtual 50, 3) := by decide +kernel
theorem dX0_retriesOf_25 : decode cX0_retriesOf 25 = .ok (.iconst (-1), 1) := by decide +kernel
theorem dX0_retriesOf_26 : decode cX0_retriesOf 26 = .ok (.if_icmp .eq 5, 3) := by decide +kernel
theorem dX0_retriesOf_29 : decode cX0_retriesOf 29 = .ok (.iconst (-1), 1) := by decide +kernel
theorem dX0_retriesOf_30 : decode cX0_retriesOf 30 = .ok (.ireturn, 1) := by decide +kernel
theorem dX0_retriesOf_31 : decode cX0_retriesOf 31 = .ok (.aload_n 3, 1) := by decide +kernel
theorem dX0_retriesOf_32 : decode cX0_retriesOf 32 = .ok (.iload_n 2, 1) := by decide +kernel
theorem dX0_retriesOf_33 : decode cX0_retriesOf 33 = .ok (.invokevirtual 54, 3) := by decide +kernel
theorem dX0_retriesOf_36 : decode cX0_retriesOf 36 = .ok (.pop, 1) := by decide +kernel
theorem dX0_retriesOf_37 : decode cX0_retriesOf 37 = .ok (.aload_n 3, 1) := by decide +kernel
theorem dX0_retriesOf_38 : decode cX0_retriesOf 38 = .ok (.iload_n 2, 1) := by decide +kernel
theorem dX0_retriesOf_39 : decode cX0_retriesOf 39 = .ok (.invokevirtual 57, 3) := by decide +kernel
theorem dX0_retriesOf_42 : decode cX0_retriesOf 42 = .ok (.iconst 1, 1) := by decide +kernel
theorem dX0_retriesOf_43 : decode cX0_retriesOf 43 = .ok (.if_icmp .ne 9, 3) := by decide +kernel
theorem dX0_retriesOf_46 : decode cX0_retriesOf 46 = .ok (.aload_n 3, 1) := by decide +kernel
theorem dX0_retriesOf_47 : decode cX0_retriesOf 47 = .ok (.iload_n 2, 1) := by decide +kernel
theorem dX0_retriesOf_48 : decode cX0_retriesOf 48 = .ok (.invokevirtual 43, 3) := by decide +kernel
theorem dX0_retriesOf_51 : decode cX0_retriesOf 51 = .ok (.pop, 1) := by decide +kernel
theorem dX0_retriesOf_52 : decode cX0_retriesOf 52 = .ok (.aload_n 3, 1) := by decide +kernel
theorem dX0_retriesOf_53 : decode cX0_retriesOf 53 = .ok (.iload_n 2, 1) := by decide +kernel
theorem dX0_retriesOf_54 : decode cX0_retriesOf 54 = .ok (.invokevirtual 57, 3) := by decide +kernel
theorem dX0_retriesOf_57 : decode cX0_retriesOf 57 = .ok (.iconst 4, 1) := by decide +kernel
theorem dX0_retriesOf_58 : decode cX0_retriesOf 58 = .ok (.if_icmp .eq 6, 3) := by decide +kernel
theorem dX0_retriesOf_61 : decode cX0_retriesOf 61 = .ok (.iload 4, 2) := by decide +kernel
theorem dX0_retriesOf_63 : decode cX0_retriesOf 63 = .ok (.ireturn, 1) := by decide +kernel
theorem dX0_retriesOf_64 : decode cX0_retriesOf 64 = .ok (.iinc 4 1, 3) := by decide +kernel
theorem dX0_retriesOf_67 : decode cX0_retriesOf 67 = .ok (.goto (-58), 3) := by decide +kernel
theorem dX0_retriesOf_70 : decode cX0_retriesOf 70 = .ok (.iconst (-1), 1) := by decide +kernel
theorem dX0_retriesOf_71 : decode cX0_retriesOf 71 = .ok (.ireturn, 1) := by decide +kernel
def fA_retriesOf_9 (u : Nat) (Γ : nx_G) (a2 : Int32) (q2 : Nat) (s3 : Int32 × nx_M) : Option ((Int32 × nx_M) ⊕ ((nx_M) ⊕ (Int32 × nx_M))) :=
  if (iz 9) < s3.1 then
    some (.inr (.inl s3.2))
  else
    (wRd Γ s3.2 q2 (fun f => fW_refusal u f (iz 7) a2 (iz (-1)) (iz (-1)))).bind fun x4 =>
    if x4 = (iz (-1)) then
      (wWr Γ s3.2 q2 (fun f => fW_redoAll u f a2)).bind fun p5 =>
      (wRd Γ p5.2 q2 (fun f => fW_stateOf u f a2)).bind fun x6 =>
      (if x6 = (iz 1) then
         (wWr Γ p5.2 q2 (fun f => fW_commitAt u f a2)).bind fun p7 =>
         some p7.2
       else
         some p5.2 : Option (nx_M)).bind fun s8 =>
      (wRd Γ s8 q2 (fun f => fW_stateOf u f a2)).bind fun x9 =>
      if x9 = (iz 4) then
        some (.inl ((s3.1 + iz 1), s8))
      else
        some (.inr (.inr (s3.1, s8)))
    else
      some (.inr (.inr ((iz (-1)), s3.2)))
def fA_retriesOf (u : Nat) (Γ : nx_G) (D : nx_M) (x : Nat) (a1 : Nat) (a2 : Int32) : Option (Int32 × nx_M) :=
  (gAt D x 0 (fA_copyOf u Γ D x a1)).bind fun p1 =>
  (p1.1).bind fun q2 =>
  (nx_iter u (fA_retriesOf_9 u Γ a2 q2) ((iz 1), p1.2)).bind (Sum.elim (fun e10 =>
    some ((iz (-1)), e10))
    (fun r0 => some r0))
set_option maxRecDepth 4000 in
theorem jA_retriesOf_9 {Γ : nx_G} {M0 : Nat → Option va_E} (u : Nat) (x : Nat) (a1 : Nat) (a2 : Int32) (q2 : Nat)   (X : nx_X) (Z : nx_Z) (s3 : Int32 × nx_M) : nx_J Γ X (RX0, cX0_retriesOf, 5, (some .int), "retriesOf", 7) Z (Sum.elim (fun s3 : Int32 × nx_M => .inl (9, [some (.ref x), some (.ref a1), some (.int a2), some (.ref q2), some (.int s3.1)], [], (ov M0 s3.2))) (Sum.elim (fun e10 : nx_M => .inl (70, [some (.ref x), some (.ref a1), some (.int a2), some (.ref q2), none], [], (ov M0 e10))) (fun r0 : Int32 × nx_M => .inr (some (.int r0.1), (ov M0 r0.2))))) (.inl (9, [some (.ref x), some (.ref a1), some (.int a2), some (.ref q2), some (.int s3.1)], [], (ov M0 s3.2))) (fA_retriesOf_9 u Γ a2 q2 s3) := by
  unfold fA_retriesOf_9
  refine nx_iload rfl dX0_retriesOf_9 rfl ?_
  refine nx_bipush (by decide +kernel) dX0_retriesOf_11 rfl ?_
  refine nx_icmp_gt (t := 70) dX0_retriesOf_13 (by decide) rfl ?_ ?_
  · refine nx_weak (ls' := [some (.ref x), some (.ref a1), some (.int a2), some (.ref q2), none]) (nx_wk_s (nx_wk_s (nx_wk_s (nx_wk_s (nx_wk_n nx_wk_e))))) ?_
    obtain ⟨_, _⟩ := s3
    exact nx_leaf rfl
  · refine nx_aload_n rfl dX0_retriesOf_16 rfl ?_
    refine nx_bipush (by decide +kernel) dX0_retriesOf_17 rfl ?_
    refine nx_iload_n rfl dX0_retriesOf_19 rfl ?_
    refine nx_iconst dX0_retriesOf_20 rfl ?_
    refine nx_iconst dX0_retriesOf_21 rfl ?_
    refine g_callWr [.int (iz 7), .int a2, .int (iz (-1)), .int (iz (-1))] (fun r => .int r) cw_0_50 cv_X6_refusal (fun M1 c f r hw hc e => cW_refusal X.2.1 hw hc e) rfl rfl (Nat.le_of_ble_eq_true rfl) (Nat.le_of_ble_eq_true rfl) dX0_retriesOf_22 rfl (fun x4 => ?_)
    refine nx_iconst dX0_retriesOf_25 rfl ?_
    refine nx_icmp_eq (t := 31) dX0_retriesOf_26 (by decide) rfl ?_ ?_
    · refine nx_aload_n rfl dX0_retriesOf_31 rfl ?_
      refine nx_iload_n rfl dX0_retriesOf_32 rfl ?_
      refine g_callWw [.int a2] (fun r => .int r) cw_0_54 cv_X6_redoAll (fun M1 c f r hw hc e => cW_redoAll X.2.1 hw hc e) rfl rfl (Nat.le_of_ble_eq_true rfl) (Nat.le_of_ble_eq_true rfl) dX0_retriesOf_33 rfl (fun p5 => ?_)
      refine nx_pop rfl dX0_retriesOf_36 rfl ?_
      refine nx_aload_n rfl dX0_retriesOf_37 rfl ?_
      refine nx_iload_n rfl dX0_retriesOf_38 rfl ?_
      refine g_callWr [.int a2] (fun r => .int r) cw_0_57 cv_X6_stateOf (fun M1 c f r hw hc e => cW_stateOf X.2.1 hw hc e) rfl rfl (Nat.le_of_ble_eq_true rfl) (Nat.le_of_ble_eq_true rfl) dX0_retriesOf_39 rfl (fun x6 => ?_)
      refine nx_iconst dX0_retriesOf_42 rfl ?_
      refine nx_seq (C1 := fun s8 : nx_M => .inl (52, [some (.ref x), some (.ref a1), some (.int a2), some (.ref q2), some (.int s3.1)], [], (ov M0 s8))) ?_ (fun s8 => ?_)
      · refine nx_icmp_ne (t := 52) dX0_retriesOf_43 (by decide) rfl ?_ ?_
        · obtain ⟨_, _⟩ := s3
          obtain ⟨_, _⟩ := p5
          exact nx_leaf rfl
        · refine nx_aload_n rfl dX0_retriesOf_46 rfl ?_
          refine nx_iload_n rfl dX0_retriesOf_47 rfl ?_
          refine g_callWw [.int a2] (fun r => .int r) cw_0_43 cv_X6_commitAt (fun M1 c f r hw hc e => cW_commitAt X.2.1 hw hc e) rfl rfl (Nat.le_of_ble_eq_true rfl) (Nat.le_of_ble_eq_true rfl) dX0_retriesOf_48 rfl (fun p7 => ?_)
          refine nx_pop rfl dX0_retriesOf_51 rfl ?_
          obtain ⟨_, _⟩ := s3
          obtain ⟨_, _⟩ := p7
          exact nx_leaf rfl
      refine nx_aload_n rfl dX0_retriesOf_52 rfl ?_
      refine nx_iload_n rfl dX0_retriesOf_53 rfl ?_
      refine g_callWr [.int a2] (fun r => .int r) cw_0_57 cv_X6_stateOf (fun M1 c f r hw hc e => cW_stateOf X.2.1 hw hc e) rfl rfl (Nat.le_of_ble_eq_true rfl) (Nat.le_of_ble_eq_true rfl) dX0_retriesOf_54 rfl (fun x9 => ?_)
      refine nx_iconst dX0_retriesOf_57 rfl ?_
      refine nx_icmp_eq (t := 64) dX0_retriesOf_58 (by decide) rfl ?_ ?_
      · refine nx_iinc [some (.ref x), some (.ref a1), some (.int a2), some (.ref q2), some (.int (s3.1 + iz 1))] dX0_retriesOf_64 rfl rfl (Nat.le_of_ble_eq_true rfl) rfl rfl ?_
        refine nx_goto (q := 9) dX0_retriesOf_67 (by decide) ?_
        obtain ⟨_, _⟩ := s3
        exact nx_leaf rfl
      · refine nx_iload rfl dX0_retriesOf_61 rfl ?_
        exact nx_iret dX0_retriesOf_63 rfl rfl
    · refine nx_iconst dX0_retriesOf_29 rfl ?_
      exact nx_iret dX0_retriesOf_30 rfl rfl
set_option maxRecDepth 4000 in
theorem jA_retriesOf {Γ : nx_G} {M0 : Nat → Option va_E} (u : Nat) (D : nx_M) (x : Nat) (a1 : Nat) (a2 : Int32)   (X : nx_X) (Z : nx_Z) : nx_J Γ X (RX0, cX0_retriesOf, 5, (some .int), "retriesOf", 7) Z (fun r0 : Int32 × nx_M => .inr (some (.int r0.1), (ov M0 r0.2))) (.inl (0, [some (.ref x), some (.ref a1), some (.int a2), none, none], [], (ov M0 D))) (fA_retriesOf u Γ D x a1 a2) := by
  unfold fA_retriesOf
  refine nx_aload_n rfl dX0_retriesOf_0 rfl ?_
  refine nx_aload_n rfl dX0_retriesOf_1 rfl ?_
  refine g_callGr [.ref a1] (fun r => va_rf r.1) (fun r => r.2) cw_0_35 cv_X0_copyOf (fun r e => cA_copyOf X.2.1 e) rfl rfl (Nat.le_of_ble_eq_true rfl) (Nat.le_of_ble_eq_true rfl) dX0_retriesOf_2 rfl (fun p1 => ?_)
  refine nx_guard (fun q2 hq2 => ?_)
  rw [hq2]
  refine nx_astore_n [some (.ref x), some (.ref a1), some (.int a2), some (.ref q2), none] dX0_retriesOf_5 rfl (Nat.le_of_ble_eq_true rfl) rfl rfl ?_
  refine nx_iconst dX0_retriesOf_6 rfl ?_
  refine nx_istore [some (.ref x), some (.ref a1), some (.int a2), some (.ref q2), some (.int (iz 1))] dX0_retriesOf_7 rfl (Nat.le_of_ble_eq_true rfl) rfl rfl ?_
  refine nx_seqS (Ca := fun e10 : nx_M => .inl (70, [some (.ref x), some (.ref a1), some (.int a2), some (.ref q2), none], [], (ov M0 e10))) (Cb := fun r0 : Int32 × nx_M => .inr (some (.int r0.1), (ov M0 r0.2))) (nx_loop (C1 := fun s3 : Int32 × nx_M => .inl (9, [some (.ref x), some (.ref a1), some (.int a2), some (.ref q2), some (.int s3.1)], [], (ov M0 s3.2))) (fun s3 => jA_retriesOf_9  u x a1 a2 q2 X Z s3) ((iz 1), p1.2)) (fun e10 => ?_) (fun r0 => ?_)
  · refine nx_iconst dX0_retriesOf_70 rfl ?_
    exact nx_iret dX0_retriesOf_71 rfl rfl
  · exact nx_leaf rfl
theorem cA_retriesOf (l : Launch) {Γ : nx_G} {M0 : Nat → Option va_E} {u : Nat} {D : nx_M} {x : Nat} {a1 : Nat} {a2 : Int32} {r : Int32 × nx_M}  (h : fA_retriesOf u Γ D x a1 a2 = some r) : nx_Ct l Γ 7 yX0_retriesOf cX0_retriesOf 5 (some .int) [.ref x, .ref a1, .int a2] (ov M0 D) (some (.int r.1), (ov M0 r.2)) :=
  nx_ct (out := fun r0 : Int32 × nx_M => (some (.int r0.1), (ov M0 r0.2))) [some (.ref x), some (.ref a1), some (.int a2), none, none] pn_RX0 h (Nat.le_of_ble_eq_true rfl) rfl (fun X Z _ => jA_retriesOf  u D x a1 a2 X Z)
theorem dX0_goOn_0 : decode cX0_goOn 0 = .ok (.aload_n 2, 1) := by decide +kernel
theorem dX0_goOn_1 : decode cX0_goOn 1 = .ok (.iload_n 3, 1) := by decide +kernel
theorem dX0_goOn_2 : decode cX0_goOn 2 = .ok (.iconst 0, 1) := by decide +kernel
theorem dX0_goOn_3 : decode cX0_goOn 3 = .ok (.invokevirtual 70, 3) := by decide +kernel
theorem dX0_goOn_6 : decode cX0_goOn 6 = .ok (.istore 4, 2) := by decide +kernel
theorem dX0_goOn_8 : decode cX0_goOn 8 = .ok (.aload_n 2, 1) := by decide +kernel
theorem dX0_goOn_9 : decode cX0_goOn 9 = .ok (.iload_n 3, 1) := by decide +kernel
theorem dX0_goOn_10 : decode cX0_goOn 10 = .ok (.iconst 1, 1) := by decide +kernel
theorem dX0_goOn_11 : decode cX0_goOn 11 = .ok (.invokevirtual 70, 3) := by decide +kernel
theorem dX0_goOn_14 : decode cX0_goOn 14 = .ok (.istore 5, 2) := by decide +kernel
theorem dX0_goOn_16 : decode cX0_goOn 16 = .ok (.aload_n 2, 1) := by decide +kernel
theorem dX0_goOn_17 : decode cX0_goOn 17 = .ok (.iload_n 3, 1) := by decide +kernel
theorem dX0_goOn_18 : decode cX0_goOn 18 = .ok (.iconst 2, 1) := by decide +kernel
theorem dX0_goOn_19 : decode cX0_goOn 19 = .ok (.invokevirtual 70, 3) := by decide +kernel
theorem dX0_goOn_22 : decode cX0_goOn 22 = .ok (.istore 6, 2) := by decide +kernel
theorem dX0_goOn_24 : decode cX0_goOn 24 = .ok (.aload_n 2, 1) := by decide +kernel
theorem dX0_goOn_25 : decode cX0_goOn 25 = .ok (.iload_n 3, 1) := by decide +kernel
theorem dX0_goOn_26 : decode cX0_goOn 26 = .ok (.iconst 3, 1) := by decide +kernel
theorem dX0_goOn_27 : decode cX0_goOn 27 = .ok (.invokevirtual 70, 3) := by decide +kernel
theorem dX0_goOn_30 : decode cX0_goOn 30 = .ok (.istore 7, 2) := by decide +kernel
theorem dX0_goOn_32 : decode cX0_goOn 32 = .ok (.aload_n 0, 1) := by decide +kernel
theorem dX0_goOn_33 : decode cX0_goOn 33 = .ok (.iload 4, 2) := by decide +kernel
theorem dX0_goOn_35 : decode cX0_goOn 35 = .ok (.iload 5, 2) := by decide +kernel
theorem dX0_goOn_37 : decode cX0_goOn 37 = .ok (.iload 6, 2) := by decide +kernel
theorem dX0_goOn_39 : decode cX0_goOn 39 = .ok (.iload 7, 2) := by decide +kernel
theorem dX0_goOn_41 : decode cX0_goOn 41 = .ok (.invokevirtual 50, 3) := by decide +kernel
theorem dX0_goOn_44 : decode cX0_goOn 44 = .ok (.iconst (-1), 1) := by decide +kernel
theorem dX0_goOn_45 : decode cX0_goOn 45 = .ok (.if_icmp .eq 5, 3) := by decide +kernel
theorem dX0_goOn_48 : decode cX0_goOn 48 = .ok (.iconst 0, 1) := by decide +kernel
theorem dX0_goOn_49 : decode cX0_goOn 49 = .ok (.ireturn, 1) := by decide +kernel
theorem dX0_goOn_50 : decode cX0_goOn 50 = .ok (.aload_n 1, 1) := by decide +kernel
theorem dX0_goOn_51 : decode cX0_goOn 51 = .ok (.aload_n 0, 1) := by decide +kernel
theorem dX0_goOn_52 : decode cX0_goOn 52 = .ok (.if_acmp .eq 8, 3) := by decide +kernel
theorem dX0_goOn_55 : decode cX0_goOn 55 = .ok (.aload_n 1, 1) := by decide +kernel
theorem dX0_goOn_56 : decode cX0_goOn 56 = .ok (.aload_n 0, 1) := by decide +kernel
theorem dX0_goOn_57 : decode cX0_goOn 57 = .ok (.invokevirtual 31, 3) := by decide +kernel
theorem dX0_goOn_60 : decode cX0_goOn 60 = .ok (.aload_n 1, 1) := by decide +kernel
theorem dX0_goOn_61 : decode cX0_goOn 61 = .ok (.iload 4, 2) := by decide +kernel
theorem dX0_goOn_63 : decode cX0_goOn 63 = .ok (.iload 5, 2) := by decide +kernel
theorem dX0_goOn_65 : decode cX0_goOn 65 = .ok (.iload 6, 2) := by decide +kernel
theorem dX0_goOn_67 : decode cX0_goOn 67 = .ok (.iload 7, 2) := by decide +kernel
theorem dX0_goOn_69 : decode cX0_goOn 69 = .ok (.invokevirtual 73, 3) := by decide +kernel
theorem dX0_goOn_72 : decode cX0_goOn 72 = .ok (.pop, 1) := by decide +kernel
theorem dX0_goOn_73 : decode cX0_goOn 73 = .ok (.iconst 1, 1) := by decide +kernel
theorem dX0_goOn_74 : decode cX0_goOn 74 = .ok (.ireturn, 1) := by decide +kernel
def fA_goOn (u : Nat) (Γ : nx_G) (D : nx_M) (a1 : Nat) (a2 : Nat) (a3 : Nat) (a4 : Int32) : Option (Bool × nx_M) :=
  (sRd Γ D a3 (fun f => fS_part u f a4 (iz 0))).bind fun x1 =>
  (sRd Γ D a3 (fun f => fS_part u f a4 (iz 1))).bind fun x2 =>
  (sRd Γ D a3 (fun f => fS_part u f a4 (iz 2))).bind fun x3 =>
  (sRd Γ D a3 (fun f => fS_part u f a4 (iz 3))).bind fun x4 =>
  (wRd Γ D a1 (fun f => fW_refusal u f x1 x2 x3 x4)).bind fun x5 =>
  if x5 = (iz (-1)) then
    (if a2 = a1 then
       some D
     else
       (gAt D a2 6 (fW_become u Γ D a2 a1)).bind fun D6 =>
       some D6 : Option (nx_M)).bind fun s7 =>
    (wWr Γ s7 a2 (fun f => fW_act u f x1 x2 x3 x4)).bind fun p8 =>
    some (true, p8.2)
  else
    some (false, D)
set_option maxRecDepth 4000 in
theorem jA_goOn {Γ : nx_G} {M0 : Nat → Option va_E} (u : Nat) (D : nx_M) (a1 : Nat) (a2 : Nat) (a3 : Nat) (a4 : Int32)   (X : nx_X) (Z : nx_Z) : nx_J Γ X (RX0, cX0_goOn, 8, (some .boolean), "goOn", 6) Z (fun r0 : Bool × nx_M => .inr (some (.int (bz r0.1)), (ov M0 r0.2))) (.inl (0, [some (.ref a1), some (.ref a2), some (.ref a3), some (.int a4), none, none, none, none], [], (ov M0 D))) (fA_goOn u Γ D a1 a2 a3 a4) := by
  unfold fA_goOn
  refine nx_aload_n rfl dX0_goOn_0 rfl ?_
  refine nx_iload_n rfl dX0_goOn_1 rfl ?_
  refine nx_iconst dX0_goOn_2 rfl ?_
  refine g_callS [.int a4, .int (iz 0)] (fun r => .int r) cw_0_70 cv_X3_part (fun M1 c ln f r hw hc e => cS_part X.2.1 hw hc e) rfl rfl (Nat.le_of_ble_eq_true rfl) (Nat.le_of_ble_eq_true rfl) dX0_goOn_3 rfl (fun x1 => ?_)
  refine nx_istore [some (.ref a1), some (.ref a2), some (.ref a3), some (.int a4), some (.int x1), none, none, none] dX0_goOn_6 rfl (Nat.le_of_ble_eq_true rfl) rfl rfl ?_
  refine nx_aload_n rfl dX0_goOn_8 rfl ?_
  refine nx_iload_n rfl dX0_goOn_9 rfl ?_
  refine nx_iconst dX0_goOn_10 rfl ?_
  refine g_callS [.int a4, .int (iz 1)] (fun r => .int r) cw_0_70 cv_X3_part (fun M1 c ln f r hw hc e => cS_part X.2.1 hw hc e) rfl rfl (Nat.le_of_ble_eq_true rfl) (Nat.le_of_ble_eq_true rfl) dX0_goOn_11 rfl (fun x2 => ?_)
  refine nx_istore [some (.ref a1), some (.ref a2), some (.ref a3), some (.int a4), some (.int x1), some (.int x2), none, none] dX0_goOn_14 rfl (Nat.le_of_ble_eq_true rfl) rfl rfl ?_
  refine nx_aload_n rfl dX0_goOn_16 rfl ?_
  refine nx_iload_n rfl dX0_goOn_17 rfl ?_
  refine nx_iconst dX0_goOn_18 rfl ?_
  refine g_callS [.int a4, .int (iz 2)] (fun r => .int r) cw_0_70 cv_X3_part (fun M1 c ln f r hw hc e => cS_part X.2.1 hw hc e) rfl rfl (Nat.le_of_ble_eq_true rfl) (Nat.le_of_ble_eq_true rfl) dX0_goOn_19 rfl (fun x3 => ?_)
  refine nx_istore [some (.ref a1), some (.ref a2), some (.ref a3), some (.int a4), some (.int x1), some (.int x2), some (.int x3), none] dX0_goOn_22 rfl (Nat.le_of_ble_eq_true rfl) rfl rfl ?_
  refine nx_aload_n rfl dX0_goOn_24 rfl ?_
  refine nx_iload_n rfl dX0_goOn_25 rfl ?_
  refine nx_iconst dX0_goOn_26 rfl ?_
  refine g_callS [.int a4, .int (iz 3)] (fun r => .int r) cw_0_70 cv_X3_part (fun M1 c ln f r hw hc e => cS_part X.2.1 hw hc e) rfl rfl (Nat.le_of_ble_eq_true rfl) (Nat.le_of_ble_eq_true rfl) dX0_goOn_27 rfl (fun x4 => ?_)
  refine nx_istore [some (.ref a1), some (.ref a2), some (.ref a3), some (.int a4), some (.int x1), some (.int x2), some (.int x3), some (.int x4)] dX0_goOn_30 rfl (Nat.le_of_ble_eq_true rfl) rfl rfl ?_
  refine nx_aload_n rfl dX0_goOn_32 rfl ?_
  refine nx_iload rfl dX0_goOn_33 rfl ?_
  refine nx_iload rfl dX0_goOn_35 rfl ?_
  refine nx_iload rfl dX0_goOn_37 rfl ?_
  refine nx_iload rfl dX0_goOn_39 rfl ?_
  refine g_callWr [.int x1, .int x2, .int x3, .int x4] (fun r => .int r) cw_0_50 cv_X6_refusal (fun M1 c f r hw hc e => cW_refusal X.2.1 hw hc e) rfl rfl (Nat.le_of_ble_eq_true rfl) (Nat.le_of_ble_eq_true rfl) dX0_goOn_41 rfl (fun x5 => ?_)
  refine nx_iconst dX0_goOn_44 rfl ?_
  refine nx_icmp_eq (t := 50) dX0_goOn_45 (by decide) rfl ?_ ?_
  · refine nx_aload_n rfl dX0_goOn_50 rfl ?_
    refine nx_aload_n rfl dX0_goOn_51 rfl ?_
    refine nx_seq (C1 := fun s7 : nx_M => .inl (60, [some (.ref a1), some (.ref a2), some (.ref a3), some (.int a4), some (.int x1), some (.int x2), some (.int x3), some (.int x4)], [], (ov M0 s7))) ?_ (fun s7 => ?_)
    · refine nx_acmp (t := 60) dX0_goOn_52 (by decide) rfl ?_ ?_
      · exact nx_leaf rfl
      · refine nx_aload_n rfl dX0_goOn_55 rfl ?_
        refine nx_aload_n rfl dX0_goOn_56 rfl ?_
        refine g_callGv [.ref a1] (fun r => r) cw_0_31 cv_X6_become (fun r e => cW_become X.2.1 e) rfl rfl (Nat.le_of_ble_eq_true rfl) (Nat.le_of_ble_eq_true rfl) dX0_goOn_57 rfl (fun D6 => ?_)
        exact nx_leaf rfl
    refine nx_aload_n rfl dX0_goOn_60 rfl ?_
    refine nx_iload rfl dX0_goOn_61 rfl ?_
    refine nx_iload rfl dX0_goOn_63 rfl ?_
    refine nx_iload rfl dX0_goOn_65 rfl ?_
    refine nx_iload rfl dX0_goOn_67 rfl ?_
    refine g_callWw [.int x1, .int x2, .int x3, .int x4] (fun r => .int r) cw_0_73 cv_X6_act (fun M1 c f r hw hc e => cW_act X.2.1 hw hc e) rfl rfl (Nat.le_of_ble_eq_true rfl) (Nat.le_of_ble_eq_true rfl) dX0_goOn_69 rfl (fun p8 => ?_)
    refine nx_pop rfl dX0_goOn_72 rfl ?_
    refine nx_iconst dX0_goOn_73 rfl ?_
    exact nx_zret (b := true) dX0_goOn_74 rfl rfl
  · refine nx_iconst dX0_goOn_48 rfl ?_
    exact nx_zret (b := false) dX0_goOn_49 rfl rfl
theorem cA_goOn (l : Launch) {Γ : nx_G} {M0 : Nat → Option va_E} {u : Nat} {D : nx_M} {a1 : Nat} {a2 : Nat} {a3 : Nat} {a4 : Int32} {r : Bool × nx_M}  (h : fA_goOn u Γ D a1 a2 a3 a4 = some r) : nx_Ct l Γ 6 yX0_goOn cX0_goOn 8 (some .boolean) [.ref a1, .ref a2, .ref a3, .int a4] (ov M0 D) (some (.int (bz r.1)), (ov M0 r.2)) :=
  nx_ct (out := fun r0 : Bool × nx_M => (some (.int (bz r0.1)), (ov M0 r0.2))) [some (.ref a1), some (.ref a2), some (.ref a3), some (.int a4), none, none, none, none] pn_RX0 h (Nat.le_of_ble_eq_true rfl) rfl (fun X Z _ => jA_goOn  u D a1 a2 a3 a4 X Z)
theorem dX0_stepsDone_0 : decode cX0_stepsDone 0 = .ok (.aload_n 0, 1) := by decide +kernel
theorem dX0_stepsDone_1 : decode cX0_stepsDone 1 = .ok (.aload_n 1, 1) := by decide +kernel
theorem dX0_stepsDone_2 : decode cX0_stepsDone 2 = .ok (.invokevirtual 35, 3) := by decide +kernel
theorem dX0_stepsDone_5 : decode cX0_stepsDone 5 = .ok (.astore_n 3, 1) := by decide +kernel
theorem dX0_stepsDone_6 : decode cX0_stepsDone 6 = .ok (.iconst 0, 1) := by decide +kernel
theorem dX0_stepsDone_7 : decode cX0_stepsDone 7 = .ok (.istore 4, 2) := by decide +kernel
theorem dX0_stepsDone_9 : decode cX0_stepsDone 9 = .ok (.iconst 0, 1) := by decide +kernel
theorem dX0_stepsDone_10 : decode cX0_stepsDone 10 = .ok (.istore 5, 2) := by decide +kernel
theorem dX0_stepsDone_12 : decode cX0_stepsDone 12 = .ok (.iload 5, 2) := by decide +kernel
theorem dX0_stepsDone_14 : decode cX0_stepsDone 14 = .ok (.aload_n 2, 1) := by decide +kernel
theorem dX0_stepsDone_15 : decode cX0_stepsDone 15 = .ok (.getfield 60, 3) := by decide +kernel
theorem dX0_stepsDone_18 : decode cX0_stepsDone 18 = .ok (.if_icmp .ge 26, 3) := by decide +kernel
theorem dX0_stepsDone_21 : decode cX0_stepsDone 21 = .ok (.aload_n 3, 1) := by decide +kernel
theorem dX0_stepsDone_22 : decode cX0_stepsDone 22 = .ok (.aload_n 3, 1) := by decide +kernel
theorem dX0_stepsDone_23 : decode cX0_stepsDone 23 = .ok (.aload_n 2, 1) := by decide +kernel
theorem dX0_stepsDone_24 : decode cX0_stepsDone 24 = .ok (.iload 5, 2) := by decide +kernel
theorem dX0_stepsDone_26 : decode cX0_stepsDone 26 = .ok (.invokestatic 66, 3) := by decide +kernel
theorem dX0_stepsDone_29 : decode cX0_stepsDone 29 = .ok (.ifCond .ne 6, 3) := by decide +kernel
theorem dX0_stepsDone_32 : decode cX0_stepsDone 32 = .ok (.goto 12, 3) := by decide +kernel
theorem dX0_stepsDone_35 : decode cX0_stepsDone 35 = .ok (.iinc 4 1, 3) := by decide +kernel
theorem dX0_stepsDone_38 : decode cX0_stepsDone 38 = .ok (.iinc 5 1, 3) := by decide +kernel
theorem dX0_stepsDone_41 : decode cX0_stepsDone 41 = .ok (.goto (-29), 3) := by decide +kernel
theorem dX0_stepsDone_44 : decode cX0_stepsDone 44 = .ok (.iload 4, 2) := by decide +kernel
theorem dX0_stepsDone_46 : decode cX0_stepsDone 46 = .ok (.ireturn, 1) := by decide +kernel
def fA_stepsDone_12 (u : Nat) (Γ : nx_G) (a2 : Nat) (q2 : Nat) (s3 : Int32 × Int32 × nx_M) : Option ((Int32 × Int32 × nx_M) ⊕ (Int32 × nx_M)) :=
  (gI s3.2.2 a2 3 1).bind fun x4 =>
  if x4 ≤ s3.2.1 then
    some (.inr (s3.1, s3.2.2))
  else
    (fA_goOn u Γ s3.2.2 q2 q2 a2 s3.2.1).bind fun p5 =>
    if p5.1 = true then
      some (.inl ((s3.1 + iz 1), (s3.2.1 + iz 1), p5.2))
    else
      some (.inr (s3.1, p5.2))
def fA_stepsDone (u : Nat) (Γ : nx_G) (D : nx_M) (x : Nat) (a1 : Nat) (a2 : Nat) : Option (Int32 × nx_M) :=
  (gAt D x 0 (fA_copyOf u Γ D x a1)).bind fun p1 =>
  (p1.1).bind fun q2 =>
  (nx_iter u (fA_stepsDone_12 u Γ a2 q2) ((iz 0), (iz 0), p1.2)).bind fun e6 =>
  some (e6.1, e6.2)
set_option maxRecDepth 4000 in
theorem jA_stepsDone_12 {Γ : nx_G} {M0 : Nat → Option va_E} (u : Nat) (x : Nat) (a1 : Nat) (a2 : Nat) (q2 : Nat)   (X : nx_X) (Z : nx_Z) (s3 : Int32 × Int32 × nx_M) : nx_J Γ X (RX0, cX0_stepsDone, 6, (some .int), "stepsDone", 7) Z (Sum.elim (fun s3 : Int32 × Int32 × nx_M => .inl (12, [some (.ref x), some (.ref a1), some (.ref a2), some (.ref q2), some (.int s3.1), some (.int s3.2.1)], [], (ov M0 s3.2.2))) (fun e6 : Int32 × nx_M => .inl (44, [some (.ref x), some (.ref a1), some (.ref a2), some (.ref q2), some (.int e6.1), none], [], (ov M0 e6.2)))) (.inl (12, [some (.ref x), some (.ref a1), some (.ref a2), some (.ref q2), some (.int s3.1), some (.int s3.2.1)], [], (ov M0 s3.2.2))) (fA_stepsDone_12 u Γ a2 q2 s3) := by
  unfold fA_stepsDone_12
  refine nx_iload rfl dX0_stepsDone_12 rfl ?_
  refine nx_aload_n rfl dX0_stepsDone_14 rfl ?_
  refine g_geti (Or.inr fl_0_60) dX0_stepsDone_15 rfl (fun x4 => ?_)
  refine nx_icmp_ge (t := 44) dX0_stepsDone_18 (by decide) rfl ?_ ?_
  · refine nx_weak (ls' := [some (.ref x), some (.ref a1), some (.ref a2), some (.ref q2), some (.int s3.1), none]) (nx_wk_s (nx_wk_s (nx_wk_s (nx_wk_s (nx_wk_s (nx_wk_n nx_wk_e)))))) ?_
    obtain ⟨_, _, _⟩ := s3
    exact nx_leaf rfl
  · refine nx_aload_n rfl dX0_stepsDone_21 rfl ?_
    refine nx_aload_n rfl dX0_stepsDone_22 rfl ?_
    refine nx_aload_n rfl dX0_stepsDone_23 rfl ?_
    refine nx_iload rfl dX0_stepsDone_24 rfl ?_
    refine nx_callSr [.ref q2, .ref q2, .ref a2, .int s3.2.1] (fun r => .int (bz r.1)) (fun r => ov M0 (r.2)) cw_0_66 wd_937 (fun r e => cA_goOn X.2.1 e) rfl rfl (Nat.le_of_ble_eq_true rfl) (Nat.le_of_ble_eq_true rfl) dX0_stepsDone_26 rfl (fun p5 => ?_)
    refine nx_ifz_ne (t := 35) dX0_stepsDone_29 (by decide) rfl ?_ ?_
    · refine nx_iinc [some (.ref x), some (.ref a1), some (.ref a2), some (.ref q2), some (.int (s3.1 + iz 1)), some (.int s3.2.1)] dX0_stepsDone_35 rfl rfl (Nat.le_of_ble_eq_true rfl) rfl rfl ?_
      refine nx_iinc [some (.ref x), some (.ref a1), some (.ref a2), some (.ref q2), some (.int (s3.1 + iz 1)), some (.int (s3.2.1 + iz 1))] dX0_stepsDone_38 rfl rfl (Nat.le_of_ble_eq_true rfl) rfl rfl ?_
      refine nx_goto (q := 12) dX0_stepsDone_41 (by decide) ?_
      obtain ⟨_, _, _⟩ := s3
      obtain ⟨_, _⟩ := p5
      exact nx_leaf rfl
    · refine nx_goto (q := 44) dX0_stepsDone_32 (by decide) ?_
      refine nx_weak (ls' := [some (.ref x), some (.ref a1), some (.ref a2), some (.ref q2), some (.int s3.1), none]) (nx_wk_s (nx_wk_s (nx_wk_s (nx_wk_s (nx_wk_s (nx_wk_n nx_wk_e)))))) ?_
      obtain ⟨_, _, _⟩ := s3
      obtain ⟨_, _⟩ := p5
      exact nx_leaf rfl
set_option maxRecDepth 4000 in
theorem jA_stepsDone {Γ : nx_G} {M0 : Nat → Option va_E} (u : Nat) (D : nx_M) (x : Nat) (a1 : Nat) (a2 : Nat)   (X : nx_X) (Z : nx_Z) : nx_J Γ X (RX0, cX0_stepsDone, 6, (some .int), "stepsDone", 7) Z (fun r0 : Int32 × nx_M => .inr (some (.int r0.1), (ov M0 r0.2))) (.inl (0, [some (.ref x), some (.ref a1), some (.ref a2), none, none, none], [], (ov M0 D))) (fA_stepsDone u Γ D x a1 a2) := by
  unfold fA_stepsDone
  refine nx_aload_n rfl dX0_stepsDone_0 rfl ?_
  refine nx_aload_n rfl dX0_stepsDone_1 rfl ?_
  refine g_callGr [.ref a1] (fun r => va_rf r.1) (fun r => r.2) cw_0_35 cv_X0_copyOf (fun r e => cA_copyOf X.2.1 e) rfl rfl (Nat.le_of_ble_eq_true rfl) (Nat.le_of_ble_eq_true rfl) dX0_stepsDone_2 rfl (fun p1 => ?_)
  refine nx_guard (fun q2 hq2 => ?_)
  rw [hq2]
  refine nx_astore_n [some (.ref x), some (.ref a1), some (.ref a2), some (.ref q2), none, none] dX0_stepsDone_5 rfl (Nat.le_of_ble_eq_true rfl) rfl rfl ?_
  refine nx_iconst dX0_stepsDone_6 rfl ?_
  refine nx_istore [some (.ref x), some (.ref a1), some (.ref a2), some (.ref q2), some (.int (iz 0)), none] dX0_stepsDone_7 rfl (Nat.le_of_ble_eq_true rfl) rfl rfl ?_
  refine nx_iconst dX0_stepsDone_9 rfl ?_
  refine nx_istore [some (.ref x), some (.ref a1), some (.ref a2), some (.ref q2), some (.int (iz 0)), some (.int (iz 0))] dX0_stepsDone_10 rfl (Nat.le_of_ble_eq_true rfl) rfl rfl ?_
  refine nx_seq (C1 := fun e6 : Int32 × nx_M => .inl (44, [some (.ref x), some (.ref a1), some (.ref a2), some (.ref q2), some (.int e6.1), none], [], (ov M0 e6.2))) (nx_loop (C1 := fun s3 : Int32 × Int32 × nx_M => .inl (12, [some (.ref x), some (.ref a1), some (.ref a2), some (.ref q2), some (.int s3.1), some (.int s3.2.1)], [], (ov M0 s3.2.2))) (fun s3 => jA_stepsDone_12  u x a1 a2 q2 X Z s3) ((iz 0), (iz 0), p1.2)) (fun e6 => ?_)
  refine nx_iload rfl dX0_stepsDone_44 rfl ?_
  exact nx_iret dX0_stepsDone_46 rfl rfl
theorem cA_stepsDone (l : Launch) {Γ : nx_G} {M0 : Nat → Option va_E} {u : Nat} {D : nx_M} {x : Nat} {a1 : Nat} {a2 : Nat} {r : Int32 × nx_M}  (h : fA_stepsDone u Γ D x a1 a2 = some r) : nx_Ct l Γ 7 yX0_stepsDone cX0_stepsDone 6 (some .int) [.ref x, .ref a1, .ref a2] (ov M0 D) (some (.int r.1), (ov M0 r.2)) :=
  nx_ct (out := fun r0 : Int32 × nx_M => (some (.int r0.1), (ov M0 r0.2))) [some (.ref x), some (.ref a1), some (.ref a2), none, none, none] pn_RX0 h (Nat.le_of_ble_eq_true rfl) rfl (fun X Z _ => jA_stepsDone  u D x a1 a2 X Z)
theorem dX0_sureBehind_0 : decode cX0_sureBehind 0 = .ok (.aload_n 0, 1) := by decide +kernel
theorem dX0_sureBehind_1 : decode cX0_sureBehind 1 = .ok (.iconst 0, 1) := by decide +kernel
theorem dX0_sureBehind_2 : decode cX0_sureBehind 2 = .ok (.invokevirtual 27, 3) := by decide +kernel
theorem dX0_sureBehind_5 : decode cX0_sureBehind 5 = .ok (.iconst 3, 1) := by decide +kernel
theorem dX0_sureBehind_6 : decode cX0_sureBehind 6 = .ok (.invokevirtual 47, 3) := by decide +kernel
theorem dX0_sureBehind_9 : decode cX0_sureBehind 9 = .ok (.ireturn, 1) := by decide +kernel
def fA_sureBehind (u : Nat) (Γ : nx_G) (D : nx_M) (x : Nat) : Option (Int32 × nx_M) :=
  (gAt D x 0 (fA_level u Γ D x (iz 0))).bind fun p1 =>
  (p1.1).bind fun q2 =>
  (wRd Γ p1.2 q2 (fun f => fW_seatsIn u f (iz 3))).bind fun x3 =>
  some (x3, p1.2)
set_option maxRecDepth 4000 in
theorem jA_sureBehind {Γ : nx_G} {M0 : Nat → Option va_E} (u : Nat) (D : nx_M) (x : Nat)   (X : nx_X) (Z : nx_Z) : nx_J Γ X (RX0, cX0_sureBehind, 1, (some .int), "sureBehind", 3) Z (fun r0 : Int32 × nx_M => .inr (some (.int r0.1), (ov M0 r0.2))) (.inl (0, [some (.ref x)], [], (ov M0 D))) (fA_sureBehind u Γ D x) := by
  unfold fA_sureBehind
  refine nx_aload_n rfl dX0_sureBehind_0 rfl ?_
  refine nx_iconst dX0_sureBehind_1 rfl ?_
  refine g_callGr [.int (iz 0)] (fun r => va_rf r.1) (fun r => r.2) cw_0_27 cv_X0_level (fun r e => cA_level X.2.1 e) rfl rfl (Nat.le_of_ble_eq_true rfl) (Nat.le_of_ble_eq_true rfl) dX0_sureBehind_2 rfl (fun p1 => ?_)
  refine nx_guard (fun q2 hq2 => ?_)
  rw [hq2]
  refine nx_iconst dX0_sureBehind_5 rfl ?_
  refine g_callWr [.int (iz 3)] (fun r => .int r) cw_0_47 cv_X6_seatsIn (fun M1 c f r hw hc e => cW_seatsIn X.2.1 hw hc e) rfl rfl (Nat.le_of_ble_eq_true rfl) (Nat.le_of_ble_eq_true rfl) dX0_sureBehind_6 rfl (fun x3 => ?_)
  exact nx_iret dX0_sureBehind_9 rfl rfl
theorem cA_sureBehind (l : Launch) {Γ : nx_G} {M0 : Nat → Option va_E} {u : Nat} {D : nx_M} {x : Nat} {r : Int32 × nx_M}  (h : fA_sureBehind u Γ D x = some r) : nx_Ct l Γ 3 yX0_sureBehind cX0_sureBehind 1 (some .int) [.ref x] (ov M0 D) (some (.int r.1), (ov M0 r.2)) :=
  nx_ct (out := fun r0 : Int32 × nx_M => (some (.int r0.1), (ov M0 r0.2))) [some (.ref x)] pn_RX0 h (Nat.le_of_ble_eq_true rfl) rfl (fun X Z _ => jA_sureBehind  u D x X Z)
theorem dX0_beginMix_0 : decode cX0_beginMix 0 = .ok (.aload_n 0, 1) := by decide +kernel
theorem dX0_beginMix_1 : decode cX0_beginMix 1 = .ok (.iconst 0, 1) := by decide +kernel
theorem dX0_beginMix_2 : decode cX0_beginMix 2 = .ok (.putfield 76, 3) := by decide +kernel
theorem dX0_beginMix_5 : decode cX0_beginMix 5 = .ok (.aload_n 0, 1) := by decide +kernel
theorem dX0_beginMix_6 : decode cX0_beginMix 6 = .ok (.iconst (-1), 1) := by decide +kernel
theorem dX0_beginMix_7 : decode cX0_beginMix 7 = .ok (.putfield 79, 3) := by decide +kernel
theorem dX0_beginMix_10 : decode cX0_beginMix 10 = .ok (.aload_n 0, 1) := by decide +kernel
theorem dX0_beginMix_11 : decode cX0_beginMix 11 = .ok (.aload_n 1, 1) := by decide +kernel
theorem dX0_beginMix_12 : decode cX0_beginMix 12 = .ok (.invokevirtual 35, 3) := by decide +kernel
theorem dX0_beginMix_15 : decode cX0_beginMix 15 = .ok (.getfield 82, 3) := by decide +kernel
theorem dX0_beginMix_18 : decode cX0_beginMix 18 = .ok (.bipush 6, 2) := by decide +kernel
theorem dX0_beginMix_20 : decode cX0_beginMix 20 = .ok (.iconst 0, 1) := by decide +kernel
theorem dX0_beginMix_21 : decode cX0_beginMix 21 = .ok (.iastore, 1) := by decide +kernel
theorem dX0_beginMix_22 : decode cX0_beginMix 22 = .ok (.return_, 1) := by decide +kernel
def fA_beginMix (u : Nat) (Γ : nx_G) (D : nx_M) (x : Nat) (a1 : Nat) : Option (nx_M) :=
  (gPut D x 0 1 (.int (iz 0))).bind fun D1 =>
  (gPut D1 x 0 2 (.int (iz (-1)))).bind fun D2 =>
  (gAt D2 x 0 (fA_copyOf u Γ D2 x a1)).bind fun p3 =>
  (p3.1).bind fun q4 =>
  (gR p3.2 q4 6 0).bind fun q5 =>
  (aIw Γ p3.2 q5 (iz 6) (iz 0)).bind fun D6 =>
  some D6
set_option maxRecDepth 4000 in
theorem jA_beginMix {Γ : nx_G} {M0 : Nat → Option va_E} (u : Nat) (D : nx_M) (x : Nat) (a1 : Nat)   (X : nx_X) (Z : nx_Z) : nx_J Γ X (RX0, cX0_beginMix, 2, none, "beginMix", 4) Z (fun r0 : nx_M => .inr (none, (ov M0 r0))) (.inl (0, [some (.ref x), some (.ref a1)], [], (ov M0 D))) (fA_beginMix u Γ D x a1) := by
  unfold fA_beginMix
  refine nx_aload_n rfl dX0_beginMix_0 rfl ?_
  refine nx_iconst dX0_beginMix_1 rfl ?_
  refine g_put (Or.inl fl_0_76) ft_0_1 rfl rfl dX0_beginMix_2 rfl (fun D1 => ?_)
  refine nx_aload_n rfl dX0_beginMix_5 rfl ?_
  refine nx_iconst dX0_beginMix_6 rfl ?_
  refine g_put (Or.inl fl_0_79) ft_0_2 rfl rfl dX0_beginMix_7 rfl (fun D2 => ?_)
  refine nx_aload_n rfl dX0_beginMix_10 rfl ?_
  refine nx_aload_n rfl dX0_beginMix_11 rfl ?_
  refine g_callGr [.ref a1] (fun r => va_rf r.1) (fun r => r.2) cw_0_35 cv_X0_copyOf (fun r e => cA_copyOf X.2.1 e) rfl rfl (Nat.le_of_ble_eq_true rfl) (Nat.le_of_ble_eq_true rfl) dX0_beginMix_12 rfl (fun p3 => ?_)
  refine nx_guard (fun q4 hq4 => ?_)
  rw [hq4]
  refine g_getr (Or.inr fl_0_82) dX0_beginMix_15 rfl (fun q5 => ?_)
  refine nx_bipush (by decide +kernel) dX0_beginMix_18 rfl ?_
  refine nx_iconst dX0_beginMix_20 rfl ?_
  refine g_iast dX0_beginMix_21 rfl (fun D6 => ?_)
  exact nx_vret dX0_beginMix_22 rfl rfl
theorem cA_beginMix (l : Launch) {Γ : nx_G} {M0 : Nat → Option va_E} {u : Nat} {D : nx_M} {x : Nat} {a1 : Nat} {r : nx_M}  (h : fA_beginMix u Γ D x a1 = some r) : nx_Ct l Γ 4 yX0_beginMix cX0_beginMix 2 none [.ref x, .ref a1] (ov M0 D) (none, (ov M0 r)) :=
  nx_ct (out := fun r0 : nx_M => (none, (ov M0 r0))) [some (.ref x), some (.ref a1)] pn_RX0 h (Nat.le_of_ble_eq_true rfl) rfl (fun X Z _ => jA_beginMix  u D x a1 X Z)
theorem dX0_goodRows_0 : decode cX0_goodRows 0 = .ok (.aload_n 0, 1) := by decide +kernel
theorem dX0_goodRows_1 : decode cX0_goodRows 1 = .ok (.getfield 76, 3) := by decide +kernel
theorem dX0_goodRows_4 : decode cX0_goodRows 4 = .ok (.ireturn, 1) := by decide +kernel
def fA_goodRows (u : Nat) (Γ : nx_G) (D : nx_M) (x : Nat) : Option (Int32) :=
  (gI D x 0 1).bind fun x1 =>
  some x1
set_option maxRecDepth 4000 in
theorem jA_goodRows {Γ : nx_G} {M0 : Nat → Option va_E} (u : Nat) (D : nx_M) (x : Nat)   (X : nx_X) (Z : nx_Z) : nx_J Γ X (RX0, cX0_goodRows, 1, (some .int), "goodRows", 1) Z (fun r0 : Int32 => .inr (some (.int r0), (ov M0 D))) (.inl (0, [some (.ref x)], [], (ov M0 D))) (fA_goodRows u Γ D x) := by
  unfold fA_goodRows
  refine nx_aload_n rfl dX0_goodRows_0 rfl ?_
  refine g_geti (Or.inl fl_0_76) dX0_goodRows_1 rfl (fun x1 => ?_)
  exact nx_iret dX0_goodRows_4 rfl rfl
theorem cA_goodRows (l : Launch) {Γ : nx_G} {M0 : Nat → Option va_E} {u : Nat} {D : nx_M} {x : Nat} {r : Int32}  (h : fA_goodRows u Γ D x = some r) : nx_Ct l Γ 1 yX0_goodRows cX0_goodRows 1 (some .int) [.ref x] (ov M0 D) (some (.int r), (ov M0 D)) :=
  nx_ct (out := fun r0 : Int32 => (some (.int r0), (ov M0 D))) [some (.ref x)] pn_RX0 h (Nat.le_of_ble_eq_true rfl) rfl (fun X Z _ => jA_goodRows  u D x X Z)
theorem dX0_firstGoodRow_0 : decode cX0_firstGoodRow 0 = .ok (.aload_n 0, 1) := by decide +kernel
theorem dX0_firstGoodRow_1 : decode cX0_firstGoodRow 1 = .ok (.getfield 79, 3) := by decide +kernel
theorem dX0_firstGoodRow_4 : decode cX0_firstGoodRow 4 = .ok (.ireturn, 1) := by decide +kernel
def fA_firstGoodRow (u : Nat) (Γ : nx_G) (D : nx_M) (x : Nat) : Option (Int32) :=
  (gI D x 0 2).bind fun x1 =>
  some x1
set_option maxRecDepth 4000 in
theorem jA_firstGoodRow {Γ : nx_G} {M0 : Nat → Option va_E} (u : Nat) (D : nx_M) (x : Nat)   (X : nx_X) (Z : nx_Z) : nx_J Γ X (RX0, cX0_firstGoodRow, 1, (some .int), "firstGoodRow", 1) Z (fun r0 : Int32 => .inr (some (.int r0), (ov M0 D))) (.inl (0, [some (.ref x)], [], (ov M0 D))) (fA_firstGoodRow u Γ D x) := by
  unfold fA_firstGoodRow
  refine nx_aload_n rfl dX0_firstGoodRow_0 rfl ?_
  refine g_geti (Or.inl fl_0_79) dX0_firstGoodRow_1 rfl (fun x1 => ?_)
  exact nx_iret dX0_firstGoodRow_4 rfl rfl
theorem cA_firstGoodRow (l : Launch) {Γ : nx_G} {M0 : Nat → Option va_E} {u : Nat} {D : nx_M} {x : Nat} {r : Int32}  (h : fA_firstGoodRow u Γ D x = some r) : nx_Ct l Γ 1 yX0_firstGoodRow cX0_firstGoodRow 1 (some .int) [.ref x] (ov M0 D) (some (.int r), (ov M0 D)) :=
  nx_ct (out := fun r0 : Int32 => (some (.int r0), (ov M0 D))) [some (.ref x)] pn_RX0 h (Nat.le_of_ble_eq_true rfl) rfl (fun X Z _ => jA_firstGoodRow  u D x X Z)
theorem dX0_nextDrawn_0 : decode cX0_nextDrawn 0 = .ok (.iload_n 1, 1) := by decide +kernel
theorem dX0_nextDrawn_1 : decode cX0_nextDrawn 1 = .ok (.istore_n 2, 1) := by decide +kernel
theorem dX0_nextDrawn_2 : decode cX0_nextDrawn 2 = .ok (.iload_n 2, 1) := by decide +kernel
theorem dX0_nextDrawn_3 : decode cX0_nextDrawn 3 = .ok (.bipush 8, 2) := by decide +kernel
theorem dX0_nextDrawn_5 : decode cX0_nextDrawn 5 = .ok (.if_icmp .ge 20, 3) := by decide +kernel
theorem dX0_nextDrawn_8 : decode cX0_nextDrawn 8 = .ok (.aload_n 0, 1) := by decide +kernel
theorem dX0_nextDrawn_9 : decode cX0_nextDrawn 9 = .ok (.getfield 99, 3) := by decide +kernel
theorem dX0_nextDrawn_12 : decode cX0_nextDrawn 12 = .ok (.iload_n 2, 1) := by decide +kernel
theorem dX0_nextDrawn_13 : decode cX0_nextDrawn 13 = .ok (.ishr, 1) := by decide +kernel
theorem dX0_nextDrawn_14 : decode cX0_nextDrawn 14 = .ok (.iconst 1, 1) := by decide +kernel
theorem dX0_nextDrawn_15 : decode cX0_nextDrawn 15 = .ok (.iand, 1) := by decide +kernel
theorem dX0_nextDrawn_16 : decode cX0_nextDrawn 16 = .ok (.ifCond .ne 9, 3) := by decide +kernel
theorem dX0_nextDrawn_19 : decode cX0_nextDrawn 19 = .ok (.iinc 2 1, 3) := by decide +kernel
theorem dX0_nextDrawn_22 : decode cX0_nextDrawn 22 = .ok (.goto (-20), 3) := by decide +kernel
theorem dX0_nextDrawn_25 : decode cX0_nextDrawn 25 = .ok (.iload_n 2, 1) := by decide +kernel
theorem dX0_nextDrawn_26 : decode cX0_nextDrawn 26 = .ok (.ireturn, 1) := by decide +kernel
def fA_nextDrawn_2 (D : nx_M) (x : Nat) (s1 : Int32) : Option ((Int32) ⊕ (Int32)) :=
  if (iz 8) ≤ s1 then
    some (.inr s1)
  else
    (gI D x 0 5).bind fun x2 =>
    if ((x2 >>> (s1 &&& 31)) &&& (iz 1)) = iz 0 then
      some (.inl (s1 + iz 1))
    else
      some (.inr s1)
def fA_nextDrawn (u : Nat) (Γ : nx_G) (D : nx_M) (x : Nat) (a1 : Int32) : Option (Int32) :=
  (nx_iter u (fA_nextDrawn_2 D x) a1).bind fun e3 =>
  some e3
set_option maxRecDepth 4000 in
theorem jA_nextDrawn_2 {Γ : nx_G} {M0 : Nat → Option va_E} (D : nx_M) (x : Nat) (a1 : Int32)   (X : nx_X) (Z : nx_Z) (s1 : Int32) : nx_J Γ X (RX0, cX0_nextDrawn, 3, (some .int), "nextDrawn", 1) Z (Sum.elim (fun s1 : Int32 => .inl (2, [some (.ref x), some (.int a1), some (.int s1)], [], (ov M0 D))) (fun e3 : Int32 => .inl (25, [some (.ref x), some (.int a1), some (.int e3)], [], (ov M0 D)))) (.inl (2, [some (.ref x), some (.int a1), some (.int s1)], [], (ov M0 D))) (fA_nextDrawn_2 D x s1) := by
  unfold fA_nextDrawn_2
  refine nx_iload_n rfl dX0_nextDrawn_2 rfl ?_
  refine nx_bipush (by decide +kernel) dX0_nextDrawn_3 rfl ?_
  refine nx_icmp_ge (t := 25) dX0_nextDrawn_5 (by decide) rfl ?_ ?_
  · exact nx_leaf rfl
  · refine nx_aload_n rfl dX0_nextDrawn_8 rfl ?_
    refine g_geti (Or.inl fl_0_99) dX0_nextDrawn_9 rfl (fun x2 => ?_)
    refine nx_iload_n rfl dX0_nextDrawn_12 rfl ?_
    refine nx_ishr dX0_nextDrawn_13 rfl ?_
    refine nx_iconst dX0_nextDrawn_14 rfl ?_
    refine nx_iand dX0_nextDrawn_15 rfl ?_
    refine nx_if_ne (t := 25) dX0_nextDrawn_16 (by decide) rfl ?_ ?_
    · exact nx_leaf rfl
    · refine nx_iinc [some (.ref x), some (.int a1), some (.int (s1 + iz 1))] dX0_nextDrawn_19 rfl rfl (Nat.le_of_ble_eq_true rfl) rfl rfl ?_
      refine nx_goto (q := 2) dX0_nextDrawn_22 (by decide) ?_
      exact nx_leaf rfl
set_option maxRecDepth 4000 in
theorem jA_nextDrawn {Γ : nx_G} {M0 : Nat → Option va_E} (u : Nat) (D : nx_M) (x : Nat) (a1 : Int32)   (X : nx_X) (Z : nx_Z) : nx_J Γ X (RX0, cX0_nextDrawn, 3, (some .int), "nextDrawn", 1) Z (fun r0 : Int32 => .inr (some (.int r0), (ov M0 D))) (.inl (0, [some (.ref x), some (.int a1), none], [], (ov M0 D))) (fA_nextDrawn u Γ D x a1) := by
  unfold fA_nextDrawn
  refine nx_iload_n rfl dX0_nextDrawn_0 rfl ?_
  refine nx_istore_n [some (.ref x), some (.int a1), some (.int a1)] dX0_nextDrawn_1 rfl (Nat.le_of_ble_eq_true rfl) rfl rfl ?_
  refine nx_seq (C1 := fun e3 : Int32 => .inl (25, [some (.ref x), some (.int a1), some (.int e3)], [], (ov M0 D))) (nx_loop (C1 := fun s1 : Int32 => .inl (2, [some (.ref x), some (.int a1), some (.int s1)], [], (ov M0 D))) (fun s1 => jA_nextDrawn_2  D x a1 X Z s1) a1) (fun e3 => ?_)
  refine nx_iload_n rfl dX0_nextDrawn_25 rfl ?_
  exact nx_iret dX0_nextDrawn_26 rfl rfl
theorem cA_nextDrawn (l : Launch) {Γ : nx_G} {M0 : Nat → Option va_E} {u : Nat} {D : nx_M} {x : Nat} {a1 : Int32} {r : Int32}  (h : fA_nextDrawn u Γ D x a1 = some r) : nx_Ct l Γ 1 yX0_nextDrawn cX0_nextDrawn 3 (some .int) [.ref x, .int a1] (ov M0 D) (some (.int r), (ov M0 D)) :=
  nx_ct (out := fun r0 : Int32 => (some (.int r0), (ov M0 D))) [some (.ref x), some (.int a1), none] pn_RX0 h (Nat.le_of_ble_eq_true rfl) rfl (fun X Z _ => jA_nextDrawn  u D x a1 X Z)
theorem dX0_commitAll_0 : decode cX0_commitAll 0 = .ok (.iconst 0, 1) := by decide +kernel
theorem dX0_commitAll_1 : decode cX0_commitAll 1 = .ok (.istore_n 1, 1) := by decide +kernel
theorem dX0_commitAll_2 : decode cX0_commitAll 2 = .ok (.iload_n 1, 1) := by decide +kernel
theorem dX0_commitAll_3 : decode cX0_commitAll 3 = .ok (.bipush 8, 2) := by decide +kernel
theorem dX0_commitAll_5 : decode cX0_commitAll 5 = .ok (.if_icmp .ge 24, 3) := by decide +kernel
theorem dX0_commitAll_8 : decode cX0_commitAll 8 = .ok (.aload_n 0, 1) := by decide +kernel
theorem dX0_commitAll_9 : decode cX0_commitAll 9 = .ok (.iload_n 1, 1) := by decide +kernel
theorem dX0_commitAll_10 : decode cX0_commitAll 10 = .ok (.invokevirtual 57, 3) := by decide +kernel
theorem dX0_commitAll_13 : decode cX0_commitAll 13 = .ok (.iconst 1, 1) := by decide +kernel
theorem dX0_commitAll_14 : decode cX0_commitAll 14 = .ok (.if_icmp .ne 9, 3) := by decide +kernel
theorem dX0_commitAll_17 : decode cX0_commitAll 17 = .ok (.aload_n 0, 1) := by decide +kernel
theorem dX0_commitAll_18 : decode cX0_commitAll 18 = .ok (.iload_n 1, 1) := by decide +kernel
theorem dX0_commitAll_19 : decode cX0_commitAll 19 = .ok (.invokevirtual 43, 3) := by decide +kernel
theorem dX0_commitAll_22 : decode cX0_commitAll 22 = .ok (.pop, 1) := by decide +kernel
theorem dX0_commitAll_23 : decode cX0_commitAll 23 = .ok (.iinc 1 1, 3) := by decide +kernel
theorem dX0_commitAll_26 : decode cX0_commitAll 26 = .ok (.goto (-24), 3) := by decide +kernel
theorem dX0_commitAll_29 : decode cX0_commitAll 29 = .ok (.return_, 1) := by decide +kernel
def fA_commitAll_2 (u : Nat) (Γ : nx_G) (a1 : Nat) (s1 : Int32 × nx_M) : Option ((Int32 × nx_M) ⊕ (nx_M)) :=
  if (iz 8) ≤ s1.1 then
    some (.inr s1.2)
  else
    (wRd Γ s1.2 a1 (fun f => fW_stateOf u f s1.1)).bind fun x2 =>
    (if x2 = (iz 1) then
       (wWr Γ s1.2 a1 (fun f => fW_commitAt u f s1.1)).bind fun p3 =>
       some p3.2
     else
       some s1.2 : Option (nx_M)).bind fun s4 =>
    some (.inl ((s1.1 + iz 1), s4))
def fA_commitAll (u : Nat) (Γ : nx_G) (D : nx_M) (a1 : Nat) : Option (nx_M) :=
  (nx_iter u (fA_commitAll_2 u Γ a1) ((iz 0), D)).bind fun e5 =>
  some e5
set_option maxRecDepth 4000 in
theorem jA_commitAll_2 {Γ : nx_G} {M0 : Nat → Option va_E} (u : Nat) (a1 : Nat)   (X : nx_X) (Z : nx_Z) (s1 : Int32 × nx_M) : nx_J Γ X (RX0, cX0_commitAll, 2, none, "commitAll", 5) Z (Sum.elim (fun s1 : Int32 × nx_M => .inl (2, [some (.ref a1), some (.int s1.1)], [], (ov M0 s1.2))) (fun e5 : nx_M => .inl (29, [some (.ref a1), none], [], (ov M0 e5)))) (.inl (2, [some (.ref a1), some (.int s1.1)], [], (ov M0 s1.2))) (fA_commitAll_2 u Γ a1 s1) := by
  unfold fA_commitAll_2
  refine nx_iload_n rfl dX0_commitAll_2 rfl ?_
  refine nx_bipush (by decide +kernel) dX0_commitAll_3 rfl ?_
  refine nx_icmp_ge (t := 29) dX0_commitAll_5 (by decide) rfl ?_ ?_
  · refine nx_weak (ls' := [some (.ref a1), none]) (nx_wk_s (nx_wk_n nx_wk_e)) ?_
    obtain ⟨_, _⟩ := s1
    exact nx_leaf rfl
  · refine nx_aload_n rfl dX0_commitAll_8 rfl ?_
    refine nx_iload_n rfl dX0_commitAll_9 rfl ?_
    refine g_callWr [.int s1.1] (fun r => .int r) cw_0_57 cv_X6_stateOf (fun M1 c f r hw hc e => cW_stateOf X.2.1 hw hc e) rfl rfl (Nat.le_of_ble_eq_true rfl) (Nat.le_of_ble_eq_true rfl) dX0_commitAll_10 rfl (fun x2 => ?_)
    refine nx_iconst dX0_commitAll_13 rfl ?_
    refine nx_seq (C1 := fun s4 : nx_M => .inl (23, [some (.ref a1), some (.int s1.1)], [], (ov M0 s4))) ?_ (fun s4 => ?_)
    · refine nx_icmp_ne (t := 23) dX0_commitAll_14 (by decide) rfl ?_ ?_
      · obtain ⟨_, _⟩ := s1
        exact nx_leaf rfl
      · refine nx_aload_n rfl dX0_commitAll_17 rfl ?_
        refine nx_iload_n rfl dX0_commitAll_18 rfl ?_
        refine g_callWw [.int s1.1] (fun r => .int r) cw_0_43 cv_X6_commitAt (fun M1 c f r hw hc e => cW_commitAt X.2.1 hw hc e) rfl rfl (Nat.le_of_ble_eq_true rfl) (Nat.le_of_ble_eq_true rfl) dX0_commitAll_19 rfl (fun p3 => ?_)
        refine nx_pop rfl dX0_commitAll_22 rfl ?_
        obtain ⟨_, _⟩ := s1
        obtain ⟨_, _⟩ := p3
        exact nx_leaf rfl
    refine nx_iinc [some (.ref a1), some (.int (s1.1 + iz 1))] dX0_commitAll_23 rfl rfl (Nat.le_of_ble_eq_true rfl) rfl rfl ?_
    refine nx_goto (q := 2) dX0_commitAll_26 (by decide) ?_
    obtain ⟨_, _⟩ := s1
    exact nx_leaf rfl
set_option maxRecDepth 4000 in
theorem jA_commitAll {Γ : nx_G} {M0 : Nat → Option va_E} (u : Nat) (D : nx_M) (a1 : Nat)   (X : nx_X) (Z : nx_Z) : nx_J Γ X (RX0, cX0_commitAll, 2, none, "commitAll", 5) Z (fun r0 : nx_M => .inr (none, (ov M0 r0))) (.inl (0, [some (.ref a1), none], [], (ov M0 D))) (fA_commitAll u Γ D a1) := by
  unfold fA_commitAll
  refine nx_iconst dX0_commitAll_0 rfl ?_
  refine nx_istore_n [some (.ref a1), some (.int (iz 0))] dX0_commitAll_1 rfl (Nat.le_of_ble_eq_true rfl) rfl rfl ?_
  refine nx_seq (C1 := fun e5 : nx_M => .inl (29, [some (.ref a1), none], [], (ov M0 e5))) (nx_loop (C1 := fun s1 : Int32 × nx_M => .inl (2, [some (.ref a1), some (.int s1.1)], [], (ov M0 s1.2))) (fun s1 => jA_commitAll_2  u a1 X Z s1) ((iz 0), D)) (fun e5 => ?_)
  exact nx_vret dX0_commitAll_29 rfl rfl
theorem cA_commitAll (l : Launch) {Γ : nx_G} {M0 : Nat → Option va_E} {u : Nat} {D : nx_M} {a1 : Nat} {r : nx_M}  (h : fA_commitAll u Γ D a1 = some r) : nx_Ct l Γ 5 yX0_commitAll cX0_commitAll 2 none [.ref a1] (ov M0 D) (none, (ov M0 r)) :=
  nx_ct (out := fun r0 : nx_M => (none, (ov M0 r0))) [some (.ref a1), none] pn_RX0 h (Nat.le_of_ble_eq_true rfl) rfl (fun X Z _ => jA_commitAll  u D a1 X Z)
theorem dX1_init_0 : decode cX1_init 0 = .ok (.aload_n 0, 1) := by decide +kernel
theorem dX1_init_1 : decode cX1_init 1 = .ok (.invokespecial 1, 3) := by decide +kernel
theorem dX1_init_4 : decode cX1_init 4 = .ok (.return_, 1) := by decide +kernel
def fR_init (u : Nat) (Γ : nx_G) (D : nx_M) (x : Nat) : Option (nx_M) :=
  some D
set_option maxRecDepth 4000 in
theorem jR_init {Γ : nx_G} {M0 : Nat → Option va_E} (u : Nat) (D : nx_M) (x : Nat)   (X : nx_X) (Z : nx_Z) : nx_J Γ X (RX1, cX1_init, 1, none, "<init>", 1) Z (fun r0 : nx_M => .inr (none, (ov M0 r0))) (.inl (0, [some (.ref x)], [], (ov M0 D))) (fR_init u Γ D x) := by
  unfold fR_init
  refine nx_aload_n rfl dX1_init_0 rfl ?_
  refine nx_objInit wd_341 wd_214 wd_215 (Nat.le_of_ble_eq_true rfl) (Nat.le_of_ble_eq_true rfl) dX1_init_1 rfl ?_
  exact nx_vret dX1_init_4 rfl rfl
theorem cR_init (l : Launch) {Γ : nx_G} {M0 : Nat → Option va_E} {u : Nat} {D : nx_M} {x : Nat} {r : nx_M}  (h : fR_init u Γ D x = some r) : nx_Ct l Γ 1 yX1_init cX1_init 1 none [.ref x] (ov M0 D) (none, (ov M0 r)) :=
  nx_ct (out := fun r0 : nx_M => (none, (ov M0 r0))) [some (.ref x)] pn_RX1 h (Nat.le_of_ble_eq_true rfl) rfl (fun X Z _ => jR_init  u D x X Z)
theorem dX1_begin_0 : decode cX1_begin 0 = .ok (.aload_n 0, 1) := by decide +kernel
theorem dX1_begin_1 : decode cX1_begin 1 = .ok (.lload_n 1, 1) := by decide +kernel
theorem dX1_begin_2 : decode cX1_begin 2 = .ok (.putfield 7, 3) := by decide +kernel
theorem dX1_begin_5 : decode cX1_begin 5 = .ok (.return_, 1) := by decide +kernel
def fR_begin (u : Nat) (Γ : nx_G) (D : nx_M) (x : Nat) (a1 : Int64) : Option (nx_M) :=
  (gPut D x 1 0 (.long a1)).bind fun D1 =>
  some D1
set_option maxRecDepth 4000 in
theorem jR_begin {Γ : nx_G} {M0 : Nat → Option va_E} (u : Nat) (D : nx_M) (x : Nat) (a1 : Int64)   (X : nx_X) (Z : nx_Z) : nx_J Γ X (RX1, cX1_begin, 3, none, "begin", 1) Z (fun r0 : nx_M => .inr (none, (ov M0 r0))) (.inl (0, [some (.ref x), some (.long a1), none], [], (ov M0 D))) (fR_begin u Γ D x a1) := by
  unfold fR_begin
  refine nx_aload_n rfl dX1_begin_0 rfl ?_
  refine nx_lload_n rfl dX1_begin_1 rfl ?_
  refine g_put (Or.inl fl_1_7) ft_1_0 rfl rfl dX1_begin_2 rfl (fun D1 => ?_)
  exact nx_vret dX1_begin_5 rfl rfl
theorem cR_begin (l : Launch) {Γ : nx_G} {M0 : Nat → Option va_E} {u : Nat} {D : nx_M} {x : Nat} {a1 : Int64} {r : nx_M}  (h : fR_begin u Γ D x a1 = some r) : nx_Ct l Γ 1 yX1_begin cX1_begin 3 none [.ref x, .long a1] (ov M0 D) (none, (ov M0 r)) :=
  nx_ct (out := fun r0 : nx_M => (none, (ov M0 r0))) [some (.ref x), some (.long a1), none] pn_RX1 h (Nat.le_of_ble_eq_true rfl) rfl (fun X Z _ => jR_begin  u D x a1 X Z)
theorem dX1_next_0 : decode cX1_next 0 = .ok (.aload_n 0, 1) := by decide +kernel
theorem dX1_next_1 : decode cX1_next 1 = .ok (.aload_n 0, 1) := by decide +kernel
theorem dX1_next_2 : decode cX1_next 2 = .ok (.getfield 7, 3) := by decide +kernel
theorem dX1_next_5 : decode cX1_next 5 = .ok (.ldc2_w 13, 3) := by decide +kernel
theorem dX1_next_8 : decode cX1_next 8 = .ok (.lmul, 1) := by decide +kernel
theorem dX1_next_9 : decode cX1_next 9 = .ok (.ldc2_w 15, 3) := by decide +kernel
theorem dX1_next_12 : decode cX1_next 12 = .ok (.ladd, 1) := by decide +kernel
theorem dX1_next_13 : decode cX1_next 13 = .ok (.putfield 7, 3) := by decide +kernel
theorem dX1_next_16 : decode cX1_next 16 = .ok (.iload_n 1, 1) := by decide +kernel
theorem dX1_next_17 : decode cX1_next 17 = .ok (.ifCond .le 17, 3) := by decide +kernel
theorem dX1_next_20 : decode cX1_next 20 = .ok (.aload_n 0, 1) := by decide +kernel
theorem dX1_next_21 : decode cX1_next 21 = .ok (.getfield 7, 3) := by decide +kernel
theorem dX1_next_24 : decode cX1_next 24 = .ok (.bipush 33, 2) := by decide +kernel
theorem dX1_next_26 : decode cX1_next 26 = .ok (.lushr, 1) := by decide +kernel
theorem dX1_next_27 : decode cX1_next 27 = .ok (.iload_n 1, 1) := by decide +kernel
theorem dX1_next_28 : decode cX1_next 28 = .ok (.i2l, 1) := by decide +kernel
theorem dX1_next_29 : decode cX1_next 29 = .ok (.lrem, 1) := by decide +kernel
theorem dX1_next_30 : decode cX1_next 30 = .ok (.l2i, 1) := by decide +kernel
theorem dX1_next_31 : decode cX1_next 31 = .ok (.goto 4, 3) := by decide +kernel
theorem dX1_next_34 : decode cX1_next 34 = .ok (.iconst 0, 1) := by decide +kernel
theorem dX1_next_35 : decode cX1_next 35 = .ok (.ireturn, 1) := by decide +kernel
def fR_next (u : Nat) (Γ : nx_G) (D : nx_M) (x : Nat) (a1 : Int32) : Option (Int32 × nx_M) :=
  (gL D x 1 0).bind fun y1 =>
  (gPut D x 1 0 (.long ((y1 * (6364136223846793005 : Int64)) + (1442695040888963407 : Int64)))).bind fun D2 =>
  if a1 ≤ iz 0 then
    some ((iz 0), D2)
  else
    (gL D2 x 1 0).bind fun y3 =>
    (nx_rml ((y3.toUInt64 >>> ((iz 33).toInt64.toUInt64 &&& Int64.toUInt64 63)).toInt64) a1.toInt64).bind fun x4 =>
    some (x4.toInt32, D2)
set_option maxRecDepth 4000 in
theorem jR_next {Γ : nx_G} {M0 : Nat → Option va_E} (u : Nat) (D : nx_M) (x : Nat) (a1 : Int32)   (X : nx_X) (Z : nx_Z) : nx_J Γ X (RX1, cX1_next, 2, (some .int), "next", 1) Z (fun r0 : Int32 × nx_M => .inr (some (.int r0.1), (ov M0 r0.2))) (.inl (0, [some (.ref x), some (.int a1)], [], (ov M0 D))) (fR_next u Γ D x a1) := by
  unfold fR_next
  refine nx_aload_n rfl dX1_next_0 rfl ?_
  refine nx_aload_n rfl dX1_next_1 rfl ?_
  refine g_getl (Or.inl fl_1_7) dX1_next_2 rfl (fun y1 => ?_)
  refine nx_ldc2 wd_806 dX1_next_5 rfl ?_
  refine nx_lmul dX1_next_8 rfl ?_
  refine nx_ldc2 wd_807 dX1_next_9 rfl ?_
  refine nx_ladd dX1_next_12 rfl ?_
  refine g_put (Or.inl fl_1_7) ft_1_0 rfl rfl dX1_next_13 rfl (fun D2 => ?_)
  refine nx_iload_n rfl dX1_next_16 rfl ?_
  refine nx_if_le (t := 34) dX1_next_17 (by decide) rfl ?_ ?_
  · refine nx_iconst dX1_next_34 rfl ?_
    exact nx_iret dX1_next_35 rfl rfl
  · refine nx_aload_n rfl dX1_next_20 rfl ?_
    refine g_getl (Or.inl fl_1_7) dX1_next_21 rfl (fun y3 => ?_)
    refine nx_bipush (by decide +kernel) dX1_next_24 rfl ?_
    refine nx_lushr dX1_next_26 rfl ?_
    refine nx_iload_n rfl dX1_next_27 rfl ?_
    refine nx_i2l dX1_next_28 rfl ?_
    refine nx_lrem dX1_next_29 rfl (fun x4 => ?_)
    refine nx_l2i dX1_next_30 rfl ?_
    refine nx_goto (q := 35) dX1_next_31 (by decide) ?_
    exact nx_iret dX1_next_35 rfl rfl
theorem cR_next (l : Launch) {Γ : nx_G} {M0 : Nat → Option va_E} {u : Nat} {D : nx_M} {x : Nat} {a1 : Int32} {r : Int32 × nx_M}  (h : fR_next u Γ D x a1 = some r) : nx_Ct l Γ 1 yX1_next cX1_next 2 (some .int) [.ref x, .int a1] (ov M0 D) (some (.int r.1), (ov M0 r.2)) :=
  nx_ct (out := fun r0 : Int32 × nx_M => (some (.int r0.1), (ov M0 r0.2))) [some (.ref x), some (.int a1)] pn_RX1 h (Nat.le_of_ble_eq_true rfl) rfl (fun X Z _ => jR_next  u D x a1 X Z)
theorem dX2_init_0 : decode cX2_init 0 = .ok (.aload_n 0, 1) := by decide +kernel
theorem dX2_init_1 : decode cX2_init 1 = .ok (.invokespecial 3, 3) := by decide +kernel
theorem dX2_init_4 : decode cX2_init 4 = .ok (.aload_n 0, 1) := by decide +kernel
theorem dX2_init_5 : decode cX2_init 5 = .ok (.bipush 40, 2) := by decide +kernel
theorem dX2_init_7 : decode cX2_init 7 = .ok (.anewarray 11, 3) := by decide +kernel
theorem dX2_init_10 : decode cX2_init 10 = .ok (.putfield 13, 3) := by decide +kernel
theorem dX2_init_13 : decode cX2_init 13 = .ok (.return_, 1) := by decide +kernel
def fQ_init (u : Nat) (Γ : nx_G) (D : nx_M) (x : Nat) : Option (nx_M) :=
  (some (nx_al D (.inl (Γ.2.2.2.1 2, 40, .inr (.inr (.inr (.inr (fun _ => none)))))) 40)).bind fun D1 =>
  (gPut D1 x 2 0 (.ref D.2.1)).bind fun D2 =>
  some D2
set_option maxRecDepth 4000 in
theorem jQ_init {Γ : nx_G} {M0 : Nat → Option va_E} (u : Nat) (D : nx_M) (x : Nat)   (X : nx_X) (Z : nx_Z) : nx_J Γ X (RX2, cX2_init, 1, none, "<init>", 1) Z (fun r0 : nx_M => .inr (none, (ov M0 r0))) (.inl (0, [some (.ref x)], [], (ov M0 D))) (fQ_init u Γ D x) := by
  unfold fQ_init
  refine nx_aload_n rfl dX2_init_0 rfl ?_
  refine nx_objInit wd_296 wd_214 wd_215 (Nat.le_of_ble_eq_true rfl) (Nat.le_of_ble_eq_true rfl) dX2_init_1 rfl ?_
  refine nx_aload_n rfl dX2_init_4 rfl ?_
  refine nx_bipush (by decide +kernel) dX2_init_5 rfl ?_
  refine g_newQ (t := 2) (Or.inl rfl) wd_297 rfl (by decide +kernel) (by decide +kernel) (Nat.le_of_ble_eq_true rfl) dX2_init_7 rfl (fun D1 _ => ?_)
  refine g_putF fl_2_13 ft_2_0 ⟨TX2, 3, rfl⟩ rfl rfl rfl dX2_init_10 rfl (fun D2 => ?_)
  exact nx_vret dX2_init_13 rfl rfl
theorem cQ_init (l : Launch) {Γ : nx_G} {M0 : Nat → Option va_E} {u : Nat} {D : nx_M} {x : Nat} {r : nx_M}  (h : fQ_init u Γ D x = some r) : nx_Ct l Γ 1 yX2_init cX2_init 1 none [.ref x] (ov M0 D) (none, (ov M0 r)) :=
  nx_ct (out := fun r0 : nx_M => (none, (ov M0 r0))) [some (.ref x)] pn_RX2 h (Nat.le_of_ble_eq_true rfl) rfl (fun X Z _ => jQ_init  u D x X Z)
theorem dX2_forget_0 : decode cX2_forget 0 = .ok (.aload_n 0, 1) := by decide +kernel
theorem dX2_forget_1 : decode cX2_forget 1 = .ok (.iconst 0, 1) := by decide +kernel
theorem dX2_forget_2 : decode cX2_forget 2 = .ok (.putfield 17, 3) := by decide +kernel
theorem dX2_forget_5 : decode cX2_forget 5 = .ok (.return_, 1) := by decide +kernel
def fQ_forget (u : Nat) (Γ : nx_G) (D : nx_M) (x : Nat) : Option (nx_M) :=
  (gPut D x 2 2 (.int (iz 0))).bind fun D1 =>
  some D1
set_option maxRecDepth 4000 in
theorem jQ_forget {Γ : nx_G} {M0 : Nat → Option va_E} (u : Nat) (D : nx_M) (x : Nat)   (X : nx_X) (Z : nx_Z) : nx_J Γ X (RX2, cX2_forget, 1, none, "forget", 1) Z (fun r0 : nx_M => .inr (none, (ov M0 r0))) (.inl (0, [some (.ref x)], [], (ov M0 D))) (fQ_forget u Γ D x) := by
  unfold fQ_forget
  refine nx_aload_n rfl dX2_forget_0 rfl ?_
  refine nx_iconst dX2_forget_1 rfl ?_
  refine g_put (Or.inl fl_2_17) ft_2_2 rfl rfl dX2_forget_2 rfl (fun D1 => ?_)
  exact nx_vret dX2_forget_5 rfl rfl
theorem cQ_forget (l : Launch) {Γ : nx_G} {M0 : Nat → Option va_E} {u : Nat} {D : nx_M} {x : Nat} {r : nx_M}  (h : fQ_forget u Γ D x = some r) : nx_Ct l Γ 1 yX2_forget cX2_forget 1 none [.ref x] (ov M0 D) (none, (ov M0 r)) :=
  nx_ct (out := fun r0 : nx_M => (none, (ov M0 r0))) [some (.ref x)] pn_RX2 h (Nat.le_of_ble_eq_true rfl) rfl (fun X Z _ => jQ_forget  u D x X Z)
theorem dX2_keep_0 : decode cX2_keep 0 = .ok (.aload_n 0, 1) := by decide +kernel
theorem dX2_keep_1 : decode cX2_keep 1 = .ok (.getfield 21, 3) := by decide +kernel
theorem dX2_keep_4 : decode cX2_keep 4 = .ok (.bipush 40, 2) := by decide +kernel
theorem dX2_keep_6 : decode cX2_keep 6 = .ok (.invokestatic 24, 3) := by decide +kernel
theorem dX2_keep_9 : decode cX2_keep 9 = .ok (.ifCond .ne 4, 3) := by decide +kernel
theorem dX2_keep_12 : decode cX2_keep 12 = .ok (.return_, 1) := by decide +kernel
theorem dX2_keep_13 : decode cX2_keep 13 = .ok (.aload_n 0, 1) := by decide +kernel
theorem dX2_keep_14 : decode cX2_keep 14 = .ok (.getfield 13, 3) := by decide +kernel
theorem dX2_keep_17 : decode cX2_keep 17 = .ok (.aload_n 0, 1) := by decide +kernel
theorem dX2_keep_18 : decode cX2_keep 18 = .ok (.getfield 21, 3) := by decide +kernel
theorem dX2_keep_21 : decode cX2_keep 21 = .ok (.aaload, 1) := by decide +kernel
theorem dX2_keep_22 : decode cX2_keep 22 = .ok (.ifnonnull 19, 3) := by decide +kernel
theorem dX2_keep_25 : decode cX2_keep 25 = .ok (.aload_n 0, 1) := by decide +kernel
theorem dX2_keep_26 : decode cX2_keep 26 = .ok (.getfield 13, 3) := by decide +kernel
theorem dX2_keep_29 : decode cX2_keep 29 = .ok (.aload_n 0, 1) := by decide +kernel
theorem dX2_keep_30 : decode cX2_keep 30 = .ok (.getfield 21, 3) := by decide +kernel
theorem dX2_keep_33 : decode cX2_keep 33 = .ok (.new 11, 3) := by decide +kernel
theorem dX2_keep_36 : decode cX2_keep 36 = .ok (.dup, 1) := by decide +kernel
theorem dX2_keep_37 : decode cX2_keep 37 = .ok (.invokespecial 28, 3) := by decide +kernel
theorem dX2_keep_40 : decode cX2_keep 40 = .ok (.aastore, 1) := by decide +kernel
theorem dX2_keep_41 : decode cX2_keep 41 = .ok (.aload_n 0, 1) := by decide +kernel
theorem dX2_keep_42 : decode cX2_keep 42 = .ok (.getfield 13, 3) := by decide +kernel
theorem dX2_keep_45 : decode cX2_keep 45 = .ok (.aload_n 0, 1) := by decide +kernel
theorem dX2_keep_46 : decode cX2_keep 46 = .ok (.getfield 21, 3) := by decide +kernel
theorem dX2_keep_49 : decode cX2_keep 49 = .ok (.aaload, 1) := by decide +kernel
theorem dX2_keep_50 : decode cX2_keep 50 = .ok (.aload_n 1, 1) := by decide +kernel
theorem dX2_keep_51 : decode cX2_keep 51 = .ok (.invokevirtual 29, 3) := by decide +kernel
theorem dX2_keep_54 : decode cX2_keep 54 = .ok (.aload_n 0, 1) := by decide +kernel
theorem dX2_keep_55 : decode cX2_keep 55 = .ok (.aload_n 0, 1) := by decide +kernel
theorem dX2_keep_56 : decode cX2_keep 56 = .ok (.getfield 21, 3) := by decide +kernel
theorem dX2_keep_59 : decode cX2_keep 59 = .ok (.iconst 1, 1) := by decide +kernel
theorem dX2_keep_60 : decode cX2_keep 60 = .ok (.iadd, 1) := by decide +kernel
theorem dX2_keep_61 : decode cX2_keep 61 = .ok (.bipush 40, 2) := by decide +kernel
theorem dX2_keep_63 : decode cX2_keep 63 = .ok (.if_icmp .ge 12, 3) := by decide +kernel
theorem dX2_keep_66 : decode cX2_keep 66 = .ok (.aload_n 0, 1) := by decide +kernel
theorem dX2_keep_67 : decode cX2_keep 67 = .ok (.getfield 21, 3) := by decide +kernel
theorem dX2_keep_70 : decode cX2_keep 70 = .ok (.iconst 1, 1) := by decide +kernel
theorem dX2_keep_71 : decode cX2_keep 71 = .ok (.iadd, 1) := by decide +kernel
theorem dX2_keep_72 : decode cX2_keep 72 = .ok (.goto 4, 3) := by decide +kernel
theorem dX2_keep_75 : decode cX2_keep 75 = .ok (.iconst 0, 1) := by decide +kernel
theorem dX2_keep_76 : decode cX2_keep 76 = .ok (.putfield 21, 3) := by decide +kernel
theorem dX2_keep_79 : decode cX2_keep 79 = .ok (.aload_n 0, 1) := by decide +kernel
theorem dX2_keep_80 : decode cX2_keep 80 = .ok (.aload_n 0, 1) := by decide +kernel
theorem dX2_keep_81 : decode cX2_keep 81 = .ok (.getfield 17, 3) := by decide +kernel
theorem dX2_keep_84 : decode cX2_keep 84 = .ok (.iconst 1, 1) := by decide +kernel
theorem dX2_keep_85 : decode cX2_keep 85 = .ok (.iadd, 1) := by decide +kernel
theorem dX2_keep_86 : decode cX2_keep 86 = .ok (.bipush 40, 2) := by decide +kernel
theorem dX2_keep_88 : decode cX2_keep 88 = .ok (.invokestatic 33, 3) := by decide +kernel
theorem dX2_keep_91 : decode cX2_keep 91 = .ok (.putfield 17, 3) := by decide +kernel
theorem dX2_keep_94 : decode cX2_keep 94 = .ok (.return_, 1) := by decide +kernel
def fQ_keep (u : Nat) (Γ : nx_G) (D : nx_M) (x : Nat) (a1 : Nat) : Option (nx_M) :=
  (gI D x 2 1).bind fun x1 =>
  (fL_within u x1 (iz 40)).bind fun b2 =>
  if b2 = true then
    (gR D x 2 0).bind fun q3 =>
    (gI D x 2 1).bind fun x4 =>
    (qA Γ 2 D q3 x4).bind fun r5 =>
    (if r5 = none then
       (gR D x 2 0).bind fun q6 =>
       (gI D x 2 1).bind fun x7 =>
       (some (nx_al D (.inr (6, [.null])) 1)).bind fun D8 =>
       (fW_init u Γ D8 D.2.1).bind fun D9 =>
       (qAw Γ 2 6 D9 q6 x7 D.2.1).bind fun D10 =>
       some D10
     else
       some D : Option (nx_M)).bind fun s11 =>
    (gR s11 x 2 0).bind fun q12 =>
    (gI s11 x 2 1).bind fun x13 =>
    (qA Γ 2 s11 q12 x13).bind fun r14 =>
    (r14).bind fun q15 =>
    (gAt s11 q15 6 (fW_become u Γ s11 q15 a1)).bind fun D16 =>
    (gI D16 x 2 1).bind fun x17 =>
    (if (iz 40) ≤ (x17 + (iz 1)) then
       some (iz 0)
     else
       (gI D16 x 2 1).bind fun x18 =>
       some (x18 + (iz 1)) : Option (Int32)).bind fun s19 =>
    (gPut D16 x 2 1 (.int s19)).bind fun D20 =>
    (gI D20 x 2 2).bind fun x21 =>
    (gPut D20 x 2 2 (.int (if (iz 40) < (x21 + (iz 1)) then (iz 40) else (x21 + (iz 1))))).bind fun D22 =>
    some D22
  else
    some D
set_option maxRecDepth 4000 in
theorem jQ_keep {Γ : nx_G} {M0 : Nat → Option va_E} (u : Nat) (D : nx_M) (x : Nat) (a1 : Nat)   (X : nx_X) (Z : nx_Z) : nx_J Γ X (RX2, cX2_keep, 2, none, "keep", 2) Z (fun r0 : nx_M => .inr (none, (ov M0 r0))) (.inl (0, [some (.ref x), some (.ref a1)], [], (ov M0 D))) (fQ_keep u Γ D x a1) := by
  unfold fQ_keep
  refine nx_aload_n rfl dX2_keep_0 rfl ?_
  refine g_geti (Or.inl fl_2_21) dX2_keep_1 rfl (fun x1 => ?_)
  refine nx_bipush (by decide +kernel) dX2_keep_4 rfl ?_
  refine nx_callSr [.int x1, .int (iz 40)] (fun r => .int (bz r)) (fun _ => (ov M0 D)) cw_2_24 wd_442 (fun r e => cL_within X.2.1  e) rfl rfl (Nat.le_of_ble_eq_true rfl) (Nat.le_of_ble_eq_true rfl) dX2_keep_6 rfl (fun b2 => ?_)
  refine nx_ifz_ne (t := 13) dX2_keep_9 (by decide) rfl ?_ ?_
  · refine nx_aload_n rfl dX2_keep_13 rfl ?_
    refine g_getr (Or.inl fl_2_13) dX2_keep_14 rfl (fun q3 => ?_)
    refine nx_aload_n rfl dX2_keep_17 rfl ?_
    refine g_geti (Or.inl fl_2_21) dX2_keep_18 rfl (fun x4 => ?_)
    refine g_aald (t := 2) rfl dX2_keep_21 rfl (fun r5 => ?_)
    refine nx_seq (C1 := fun s11 : nx_M => .inl (41, [some (.ref x), some (.ref a1)], [], (ov M0 s11))) ?_ (fun s11 => ?_)
    · refine nx_ifnonnull (t := 41) dX2_keep_22 (by decide) rfl ?_ ?_
      · exact nx_leaf rfl
      · refine nx_aload_n rfl dX2_keep_25 rfl ?_
        refine g_getr (Or.inl fl_2_13) dX2_keep_26 rfl (fun q6 => ?_)
        refine nx_aload_n rfl dX2_keep_29 rfl ?_
        refine g_geti (Or.inl fl_2_21) dX2_keep_30 rfl (fun x7 => ?_)
        refine g_new cn_2_11 dX2_keep_33 rfl (fun D8 _ => ?_)
        refine nx_dup rfl dX2_keep_36 rfl ?_
        refine nx_callI (mem := fun r => ov M0 r) [] cw_2_28 wd_283 rfl (fun r e => cW_init X.2.1 e) rfl rfl (Nat.le_of_ble_eq_true rfl) (Nat.le_of_ble_eq_true rfl) dX2_keep_37 rfl (fun D9 => ?_)
        refine g_aast (t := 2) (ci := 6) rfl rfl dX2_keep_40 rfl (fun D10 => ?_)
        exact nx_leaf rfl
    refine nx_aload_n rfl dX2_keep_41 rfl ?_
    refine g_getr (Or.inl fl_2_13) dX2_keep_42 rfl (fun q12 => ?_)
    refine nx_aload_n rfl dX2_keep_45 rfl ?_
    refine g_geti (Or.inl fl_2_21) dX2_keep_46 rfl (fun x13 => ?_)
    refine g_aald (t := 2) rfl dX2_keep_49 rfl (fun r14 => ?_)
    refine nx_aload_n rfl dX2_keep_50 rfl ?_
    refine nx_guard (fun q15 hq15 => ?_)
    rw [hq15]
    refine g_callGv [.ref a1] (fun r => r) cw_2_29 cv_X6_become (fun r e => cW_become X.2.1 e) rfl rfl (Nat.le_of_ble_eq_true rfl) (Nat.le_of_ble_eq_true rfl) dX2_keep_51 rfl (fun D16 => ?_)
    refine nx_aload_n rfl dX2_keep_54 rfl ?_
    refine nx_aload_n rfl dX2_keep_55 rfl ?_
    refine g_geti (Or.inl fl_2_21) dX2_keep_56 rfl (fun x17 => ?_)
    refine nx_iconst dX2_keep_59 rfl ?_
    refine nx_iadd dX2_keep_60 rfl ?_
    refine nx_bipush (by decide +kernel) dX2_keep_61 rfl ?_
    refine nx_seq (C1 := fun s19 : Int32 => .inl (76, [some (.ref x), some (.ref a1)], [.int s19, .ref x], (ov M0 D16))) ?_ (fun s19 => ?_)
    · refine nx_icmp_ge (t := 75) dX2_keep_63 (by decide) rfl ?_ ?_
      · refine nx_iconst dX2_keep_75 rfl ?_
        exact nx_leaf rfl
      · refine nx_aload_n rfl dX2_keep_66 rfl ?_
        refine g_geti (Or.inl fl_2_21) dX2_keep_67 rfl (fun x18 => ?_)
        refine nx_iconst dX2_keep_70 rfl ?_
        refine nx_iadd dX2_keep_71 rfl ?_
        refine nx_goto (q := 76) dX2_keep_72 (by decide) ?_
        exact nx_leaf rfl
    refine g_put (Or.inl fl_2_21) ft_2_1 rfl rfl dX2_keep_76 rfl (fun D20 => ?_)
    refine nx_aload_n rfl dX2_keep_79 rfl ?_
    refine nx_aload_n rfl dX2_keep_80 rfl ?_
    refine g_geti (Or.inl fl_2_17) dX2_keep_81 rfl (fun x21 => ?_)
    refine nx_iconst dX2_keep_84 rfl ?_
    refine nx_iadd dX2_keep_85 rfl ?_
    refine nx_bipush (by decide +kernel) dX2_keep_86 rfl ?_
    refine nx_min wd_644 wd_645 wd_206 wd_646 (Nat.le_of_ble_eq_true rfl) (Nat.le_of_ble_eq_true rfl) dX2_keep_88 rfl ?_
    refine g_put (Or.inl fl_2_17) ft_2_2 rfl rfl dX2_keep_91 rfl (fun D22 => ?_)
    exact nx_vret dX2_keep_94 rfl rfl
  · exact nx_vret dX2_keep_12 rfl rfl
theorem cQ_keep (l : Launch) {Γ : nx_G} {M0 : Nat → Option va_E} {u : Nat} {D : nx_M} {x : Nat} {a1 : Nat} {r : nx_M}  (h : fQ_keep u Γ D x a1 = some r) : nx_Ct l Γ 2 yX2_keep cX2_keep 2 none [.ref x, .ref a1] (ov M0 D) (none, (ov M0 r)) :=
  nx_ct (out := fun r0 : nx_M => (none, (ov M0 r0))) [some (.ref x), some (.ref a1)] pn_RX2 h (Nat.le_of_ble_eq_true rfl) rfl (fun X Z _ => jQ_keep  u D x a1 X Z)
theorem dX2_bringBack_0 : decode cX2_bringBack 0 = .ok (.aload_n 0, 1) := by decide +kernel
theorem dX2_bringBack_1 : decode cX2_bringBack 1 = .ok (.getfield 17, 3) := by decide +kernel
theorem dX2_bringBack_4 : decode cX2_bringBack 4 = .ok (.ifCond .gt 5, 3) := by decide +kernel
theorem dX2_bringBack_7 : decode cX2_bringBack 7 = .ok (.iconst (-1), 1) := by decide +kernel
theorem dX2_bringBack_8 : decode cX2_bringBack 8 = .ok (.ireturn, 1) := by decide +kernel
theorem dX2_bringBack_9 : decode cX2_bringBack 9 = .ok (.aload_n 0, 1) := by decide +kernel
theorem dX2_bringBack_10 : decode cX2_bringBack 10 = .ok (.getfield 21, 3) := by decide +kernel
theorem dX2_bringBack_13 : decode cX2_bringBack 13 = .ok (.ifCond .le 12, 3) := by decide +kernel
theorem dX2_bringBack_16 : decode cX2_bringBack 16 = .ok (.aload_n 0, 1) := by decide +kernel
theorem dX2_bringBack_17 : decode cX2_bringBack 17 = .ok (.getfield 21, 3) := by decide +kernel
theorem dX2_bringBack_20 : decode cX2_bringBack 20 = .ok (.iconst 1, 1) := by decide +kernel
theorem dX2_bringBack_21 : decode cX2_bringBack 21 = .ok (.isub, 1) := by decide +kernel
theorem dX2_bringBack_22 : decode cX2_bringBack 22 = .ok (.goto 5, 3) := by decide +kernel
theorem dX2_bringBack_25 : decode cX2_bringBack 25 = .ok (.bipush 39, 2) := by decide +kernel
theorem dX2_bringBack_27 : decode cX2_bringBack 27 = .ok (.istore_n 2, 1) := by decide +kernel
theorem dX2_bringBack_28 : decode cX2_bringBack 28 = .ok (.iload_n 2, 1) := by decide +kernel
theorem dX2_bringBack_29 : decode cX2_bringBack 29 = .ok (.bipush 40, 2) := by decide +kernel
theorem dX2_bringBack_31 : decode cX2_bringBack 31 = .ok (.invokestatic 24, 3) := by decide +kernel
theorem dX2_bringBack_34 : decode cX2_bringBack 34 = .ok (.ifCond .eq 12, 3) := by decide +kernel
theorem dX2_bringBack_37 : decode cX2_bringBack 37 = .ok (.aload_n 0, 1) := by decide +kernel
theorem dX2_bringBack_38 : decode cX2_bringBack 38 = .ok (.getfield 13, 3) := by decide +kernel
theorem dX2_bringBack_41 : decode cX2_bringBack 41 = .ok (.iload_n 2, 1) := by decide +kernel
theorem dX2_bringBack_42 : decode cX2_bringBack 42 = .ok (.aaload, 1) := by decide +kernel
theorem dX2_bringBack_43 : decode cX2_bringBack 43 = .ok (.ifnonnull 5, 3) := by decide +kernel
theorem dX2_bringBack_46 : decode cX2_bringBack 46 = .ok (.iconst (-1), 1) := by decide +kernel
theorem dX2_bringBack_47 : decode cX2_bringBack 47 = .ok (.ireturn, 1) := by decide +kernel
theorem dX2_bringBack_48 : decode cX2_bringBack 48 = .ok (.aload_n 1, 1) := by decide +kernel
theorem dX2_bringBack_49 : decode cX2_bringBack 49 = .ok (.aload_n 0, 1) := by decide +kernel
theorem dX2_bringBack_50 : decode cX2_bringBack 50 = .ok (.getfield 13, 3) := by decide +kernel
theorem dX2_bringBack_53 : decode cX2_bringBack 53 = .ok (.iload_n 2, 1) := by decide +kernel
theorem dX2_bringBack_54 : decode cX2_bringBack 54 = .ok (.aaload, 1) := by decide +kernel
theorem dX2_bringBack_55 : decode cX2_bringBack 55 = .ok (.invokevirtual 29, 3) := by decide +kernel
theorem dX2_bringBack_58 : decode cX2_bringBack 58 = .ok (.aload_n 0, 1) := by decide +kernel
theorem dX2_bringBack_59 : decode cX2_bringBack 59 = .ok (.iload_n 2, 1) := by decide +kernel
theorem dX2_bringBack_60 : decode cX2_bringBack 60 = .ok (.putfield 21, 3) := by decide +kernel
theorem dX2_bringBack_63 : decode cX2_bringBack 63 = .ok (.aload_n 0, 1) := by decide +kernel
theorem dX2_bringBack_64 : decode cX2_bringBack 64 = .ok (.dup, 1) := by decide +kernel
theorem dX2_bringBack_65 : decode cX2_bringBack 65 = .ok (.getfield 17, 3) := by decide +kernel
theorem dX2_bringBack_68 : decode cX2_bringBack 68 = .ok (.iconst 1, 1) := by decide +kernel
theorem dX2_bringBack_69 : decode cX2_bringBack 69 = .ok (.isub, 1) := by decide +kernel
theorem dX2_bringBack_70 : decode cX2_bringBack 70 = .ok (.putfield 17, 3) := by decide +kernel
theorem dX2_bringBack_73 : decode cX2_bringBack 73 = .ok (.aload_n 0, 1) := by decide +kernel
theorem dX2_bringBack_74 : decode cX2_bringBack 74 = .ok (.getfield 17, 3) := by decide +kernel
theorem dX2_bringBack_77 : decode cX2_bringBack 77 = .ok (.ireturn, 1) := by decide +kernel
def fQ_bringBack (u : Nat) (Γ : nx_G) (D : nx_M) (x : Nat) (a1 : Nat) : Option (Int32 × nx_M) :=
  (gI D x 2 2).bind fun x1 =>
  if iz 0 < x1 then
    (gI D x 2 1).bind fun x2 =>
    (if x2 ≤ iz 0 then
       some (iz 39)
     else
       (gI D x 2 1).bind fun x3 =>
       some (x3 - (iz 1)) : Option (Int32)).bind fun s4 =>
    (fL_within u s4 (iz 40)).bind fun b5 =>
    if b5 = true then
      (gR D x 2 0).bind fun q6 =>
      (qA Γ 2 D q6 s4).bind fun r7 =>
      if r7 = none then
        some ((iz (-1)), D)
      else
        (gR D x 2 0).bind fun q8 =>
        (qA Γ 2 D q8 s4).bind fun r9 =>
        (r9).bind fun q10 =>
        (gAt D a1 6 (fW_become u Γ D a1 q10)).bind fun D11 =>
        (gPut D11 x 2 1 (.int s4)).bind fun D12 =>
        (gI D12 x 2 2).bind fun x13 =>
        (gPut D12 x 2 2 (.int (x13 - (iz 1)))).bind fun D14 =>
        (gI D14 x 2 2).bind fun x15 =>
        some (x15, D14)
    else
      some ((iz (-1)), D)
  else
    some ((iz (-1)), D)
set_option maxRecDepth 4000 in
theorem jQ_bringBack {Γ : nx_G} {M0 : Nat → Option va_E} (u : Nat) (D : nx_M) (x : Nat) (a1 : Nat)   (X : nx_X) (Z : nx_Z) : nx_J Γ X (RX2, cX2_bringBack, 3, (some .int), "bringBack", 2) Z (fun r0 : Int32 × nx_M => .inr (some (.int r0.1), (ov M0 r0.2))) (.inl (0, [some (.ref x), some (.ref a1), none], [], (ov M0 D))) (fQ_bringBack u Γ D x a1) := by
  unfold fQ_bringBack
  refine nx_aload_n rfl dX2_bringBack_0 rfl ?_
  refine g_geti (Or.inl fl_2_17) dX2_bringBack_1 rfl (fun x1 => ?_)
  refine nx_if_gt (t := 9) dX2_bringBack_4 (by decide) rfl ?_ ?_
  · refine nx_aload_n rfl dX2_bringBack_9 rfl ?_
    refine g_geti (Or.inl fl_2_21) dX2_bringBack_10 rfl (fun x2 => ?_)
    refine nx_seq (C1 := fun s4 : Int32 => .inl (27, [some (.ref x), some (.ref a1), none], [.int s4], (ov M0 D))) ?_ (fun s4 => ?_)
    · refine nx_if_le (t := 25) dX2_bringBack_13 (by decide) rfl ?_ ?_
      · refine nx_bipush (by decide +kernel) dX2_bringBack_25 rfl ?_
        exact nx_leaf rfl
      · refine nx_aload_n rfl dX2_bringBack_16 rfl ?_
        refine g_geti (Or.inl fl_2_21) dX2_bringBack_17 rfl (fun x3 => ?_)
        refine nx_iconst dX2_bringBack_20 rfl ?_
        refine nx_isub dX2_bringBack_21 rfl ?_
        refine nx_goto (q := 27) dX2_bringBack_22 (by decide) ?_
        exact nx_leaf rfl
    refine nx_istore_n [some (.ref x), some (.ref a1), some (.int s4)] dX2_bringBack_27 rfl (Nat.le_of_ble_eq_true rfl) rfl rfl ?_
    refine nx_iload_n rfl dX2_bringBack_28 rfl ?_
    refine nx_bipush (by decide +kernel) dX2_bringBack_29 rfl ?_
    refine nx_callSr [.int s4, .int (iz 40)] (fun r => .int (bz r)) (fun _ => (ov M0 D)) cw_2_24 wd_442 (fun r e => cL_within X.2.1  e) rfl rfl (Nat.le_of_ble_eq_true rfl) (Nat.le_of_ble_eq_true rfl) dX2_bringBack_31 rfl (fun b5 => ?_)
    refine nx_ifz_eq (t := 46) dX2_bringBack_34 (by decide) rfl ?_ ?_
    · refine nx_iconst dX2_bringBack_46 rfl ?_
      exact nx_iret dX2_bringBack_47 rfl rfl
    · refine nx_aload_n rfl dX2_bringBack_37 rfl ?_
      refine g_getr (Or.inl fl_2_13) dX2_bringBack_38 rfl (fun q6 => ?_)
      refine nx_iload_n rfl dX2_bringBack_41 rfl ?_
      refine g_aald (t := 2) rfl dX2_bringBack_42 rfl (fun r7 => ?_)
      refine nx_ifnonnull (t := 48) dX2_bringBack_43 (by decide) rfl ?_ ?_
      · refine nx_aload_n rfl dX2_bringBack_48 rfl ?_
        refine nx_aload_n rfl dX2_bringBack_49 rfl ?_
        refine g_getr (Or.inl fl_2_13) dX2_bringBack_50 rfl (fun q8 => ?_)
        refine nx_iload_n rfl dX2_bringBack_53 rfl ?_
        refine g_aald (t := 2) rfl dX2_bringBack_54 rfl (fun r9 => ?_)
        refine nx_guard (fun q10 hq10 => ?_)
        rw [hq10]
        refine g_callGv [.ref q10] (fun r => r) cw_2_29 cv_X6_become (fun r e => cW_become X.2.1 e) rfl rfl (Nat.le_of_ble_eq_true rfl) (Nat.le_of_ble_eq_true rfl) dX2_bringBack_55 rfl (fun D11 => ?_)
        refine nx_aload_n rfl dX2_bringBack_58 rfl ?_
        refine nx_iload_n rfl dX2_bringBack_59 rfl ?_
        refine g_put (Or.inl fl_2_21) ft_2_1 rfl rfl dX2_bringBack_60 rfl (fun D12 => ?_)
        refine nx_aload_n rfl dX2_bringBack_63 rfl ?_
        refine nx_dup rfl dX2_bringBack_64 rfl ?_
        refine g_geti (Or.inl fl_2_17) dX2_bringBack_65 rfl (fun x13 => ?_)
        refine nx_iconst dX2_bringBack_68 rfl ?_
        refine nx_isub dX2_bringBack_69 rfl ?_
        refine g_put (Or.inl fl_2_17) ft_2_2 rfl rfl dX2_bringBack_70 rfl (fun D14 => ?_)
        refine nx_aload_n rfl dX2_bringBack_73 rfl ?_
        refine g_geti (Or.inl fl_2_17) dX2_bringBack_74 rfl (fun x15 => ?_)
        exact nx_iret dX2_bringBack_77 rfl rfl
      · refine nx_iconst dX2_bringBack_46 rfl ?_
        exact nx_iret dX2_bringBack_47 rfl rfl
  · refine nx_iconst dX2_bringBack_7 rfl ?_
    exact nx_iret dX2_bringBack_8 rfl rfl
theorem cQ_bringBack (l : Launch) {Γ : nx_G} {M0 : Nat → Option va_E} {u : Nat} {D : nx_M} {x : Nat} {a1 : Nat} {r : Int32 × nx_M}  (h : fQ_bringBack u Γ D x a1 = some r) : nx_Ct l Γ 2 yX2_bringBack cX2_bringBack 3 (some .int) [.ref x, .ref a1] (ov M0 D) (some (.int r.1), (ov M0 r.2)) :=
  nx_ct (out := fun r0 : Int32 × nx_M => (some (.int r0.1), (ov M0 r0.2))) [some (.ref x), some (.ref a1), none] pn_RX2 h (Nat.le_of_ble_eq_true rfl) rfl (fun X Z _ => jQ_bringBack  u D x a1 X Z)
theorem dX5_init_0 : decode cX5_init 0 = .ok (.aload_n 0, 1) := by decide +kernel
theorem dX5_init_1 : decode cX5_init 1 = .ok (.invokespecial 3, 3) := by decide +kernel
theorem dX5_init_4 : decode cX5_init 4 = .ok (.aload_n 0, 1) := by decide +kernel
theorem dX5_init_5 : decode cX5_init 5 = .ok (.sipush 240, 3) := by decide +kernel
theorem dX5_init_8 : decode cX5_init 8 = .ok (.newarray .int, 2) := by decide +kernel
theorem dX5_init_10 : decode cX5_init 10 = .ok (.putfield 11, 3) := by decide +kernel
theorem dX5_init_13 : decode cX5_init 13 = .ok (.return_, 1) := by decide +kernel
def fT_init (u : Nat) (Γ : nx_G) (D : nx_M) (x : Nat) : Option (nx_M) :=
  (some (nx_al D (.inl (Γ.2.2.2.1 0, 240, .inl (fun _ => 0))) 240)).bind fun D1 =>
  (gPut D1 x 5 0 (.ref D.2.1)).bind fun D2 =>
  some D2
set_option maxRecDepth 4000 in
theorem jT_init {Γ : nx_G} {M0 : Nat → Option va_E} (u : Nat) (D : nx_M) (x : Nat)   (X : nx_X) (Z : nx_Z) : nx_J Γ X (RX5, cX5_init, 1, none, "<init>", 1) Z (fun r0 : nx_M => .inr (none, (ov M0 r0))) (.inl (0, [some (.ref x)], [], (ov M0 D))) (fT_init u Γ D x) := by
  unfold fT_init
  refine nx_aload_n rfl dX5_init_0 rfl ?_
  refine nx_objInit wd_221 wd_214 wd_215 (Nat.le_of_ble_eq_true rfl) (Nat.le_of_ble_eq_true rfl) dX5_init_1 rfl ?_
  refine nx_aload_n rfl dX5_init_4 rfl ?_
  refine nx_sipush (by decide +kernel) dX5_init_5 rfl ?_
  refine g_newI wd_241 (by decide +kernel) (by decide +kernel) (Nat.le_of_ble_eq_true rfl) dX5_init_8 rfl (fun D1 _ => ?_)
  refine g_putF fl_5_11 ft_5_0 ⟨TX5, 4, rfl⟩ rfl rfl rfl dX5_init_10 rfl (fun D2 => ?_)
  exact nx_vret dX5_init_13 rfl rfl
theorem cT_init (l : Launch) {Γ : nx_G} {M0 : Nat → Option va_E} {u : Nat} {D : nx_M} {x : Nat} {r : nx_M}  (h : fT_init u Γ D x = some r) : nx_Ct l Γ 1 yX5_init cX5_init 1 none [.ref x] (ov M0 D) (none, (ov M0 r)) :=
  nx_ct (out := fun r0 : nx_M => (none, (ov M0 r0))) [some (.ref x)] pn_RX5 h (Nat.le_of_ble_eq_true rfl) rfl (fun X Z _ => jT_init  u D x X Z)
theorem dX4_init_0 : decode cX4_init 0 = .ok (.aload_n 0, 1) := by decide +kernel
theorem dX4_init_1 : decode cX4_init 1 = .ok (.invokespecial 3, 3) := by decide +kernel
theorem dX4_init_4 : decode cX4_init 4 = .ok (.aload_n 0, 1) := by decide +kernel
theorem dX4_init_5 : decode cX4_init 5 = .ok (.iconst 3, 1) := by decide +kernel
theorem dX4_init_6 : decode cX4_init 6 = .ok (.newarray .int, 2) := by decide +kernel
theorem dX4_init_8 : decode cX4_init 8 = .ok (.putfield 11, 3) := by decide +kernel
theorem dX4_init_11 : decode cX4_init 11 = .ok (.aload_n 0, 1) := by decide +kernel
theorem dX4_init_12 : decode cX4_init 12 = .ok (.bipush 6, 2) := by decide +kernel
theorem dX4_init_14 : decode cX4_init 14 = .ok (.newarray .int, 2) := by decide +kernel
theorem dX4_init_16 : decode cX4_init 16 = .ok (.putfield 15, 3) := by decide +kernel
theorem dX4_init_19 : decode cX4_init 19 = .ok (.return_, 1) := by decide +kernel
def fO_init (u : Nat) (Γ : nx_G) (D : nx_M) (x : Nat) : Option (nx_M) :=
  (some (nx_al D (.inl (Γ.2.2.2.1 0, 3, .inl (fun _ => 0))) 3)).bind fun D1 =>
  (gPut D1 x 4 0 (.ref D.2.1)).bind fun D2 =>
  (some (nx_al D2 (.inl (Γ.2.2.2.1 0, 6, .inl (fun _ => 0))) 6)).bind fun D3 =>
  (gPut D3 x 4 1 (.ref D2.2.1)).bind fun D4 =>
  some D4
set_option maxRecDepth 4000 in
theorem jO_init {Γ : nx_G} {M0 : Nat → Option va_E} (u : Nat) (D : nx_M) (x : Nat)   (X : nx_X) (Z : nx_Z) : nx_J Γ X (RX4, cX4_init, 1, none, "<init>", 1) Z (fun r0 : nx_M => .inr (none, (ov M0 r0))) (.inl (0, [some (.ref x)], [], (ov M0 D))) (fO_init u Γ D x) := by
  unfold fO_init
  refine nx_aload_n rfl dX4_init_0 rfl ?_
  refine nx_objInit wd_247 wd_214 wd_215 (Nat.le_of_ble_eq_true rfl) (Nat.le_of_ble_eq_true rfl) dX4_init_1 rfl ?_
  refine nx_aload_n rfl dX4_init_4 rfl ?_
  refine nx_iconst dX4_init_5 rfl ?_
  refine g_newI wd_241 (by decide +kernel) (by decide +kernel) (Nat.le_of_ble_eq_true rfl) dX4_init_6 rfl (fun D1 _ => ?_)
  refine g_putF fl_4_11 ft_4_0 ⟨TX4, 4, rfl⟩ rfl rfl rfl dX4_init_8 rfl (fun D2 => ?_)
  refine nx_aload_n rfl dX4_init_11 rfl ?_
  refine nx_bipush (by decide +kernel) dX4_init_12 rfl ?_
  refine g_newI wd_241 (by decide +kernel) (by decide +kernel) (Nat.le_of_ble_eq_true rfl) dX4_init_14 rfl (fun D3 _ => ?_)
  refine g_putF fl_4_15 ft_4_1 ⟨TX4, 4, rfl⟩ rfl rfl rfl dX4_init_16 rfl (fun D4 => ?_)
  exact nx_vret dX4_init_19 rfl rfl
theorem cO_init (l : Launch) {Γ : nx_G} {M0 : Nat → Option va_E} {u : Nat} {D : nx_M} {x : Nat} {r : nx_M}  (h : fO_init u Γ D x = some r) : nx_Ct l Γ 1 yX4_init cX4_init 1 none [.ref x] (ov M0 D) (none, (ov M0 r)) :=
  nx_ct (out := fun r0 : nx_M => (none, (ov M0 r0))) [some (.ref x)] pn_RX4 h (Nat.le_of_ble_eq_true rfl) rfl (fun X Z _ => jO_init  u D x X Z)
theorem dX3_init_0 : decode cX3_init 0 = .ok (.aload_n 0, 1) := by decide +kernel
theorem dX3_init_1 : decode cX3_init 1 = .ok (.invokespecial 3, 3) := by decide +kernel
theorem dX3_init_4 : decode cX3_init 4 = .ok (.aload_n 0, 1) := by decide +kernel
theorem dX3_init_5 : decode cX3_init 5 = .ok (.bipush 64, 2) := by decide +kernel
theorem dX3_init_7 : decode cX3_init 7 = .ok (.newarray .int, 2) := by decide +kernel
theorem dX3_init_9 : decode cX3_init 9 = .ok (.putfield 11, 3) := by decide +kernel
theorem dX3_init_12 : decode cX3_init 12 = .ok (.return_, 1) := by decide +kernel
def fP_init (u : Nat) (Γ : nx_G) (D : nx_M) (x : Nat) : Option (nx_M) :=
  (some (nx_al D (.inl (Γ.2.2.2.1 0, 64, .inl (fun _ => 0))) 64)).bind fun D1 =>
  (gPut D1 x 3 0 (.ref D.2.1)).bind fun D2 =>
  some D2
set_option maxRecDepth 4000 in
theorem jP_init {Γ : nx_G} {M0 : Nat → Option va_E} (u : Nat) (D : nx_M) (x : Nat)   (X : nx_X) (Z : nx_Z) : nx_J Γ X (RX3, cX3_init, 1, none, "<init>", 1) Z (fun r0 : nx_M => .inr (none, (ov M0 r0))) (.inl (0, [some (.ref x)], [], (ov M0 D))) (fP_init u Γ D x) := by
  unfold fP_init
  refine nx_aload_n rfl dX3_init_0 rfl ?_
  refine nx_objInit wd_270 wd_214 wd_215 (Nat.le_of_ble_eq_true rfl) (Nat.le_of_ble_eq_true rfl) dX3_init_1 rfl ?_
  refine nx_aload_n rfl dX3_init_4 rfl ?_
  refine nx_bipush (by decide +kernel) dX3_init_5 rfl ?_
  refine g_newI wd_241 (by decide +kernel) (by decide +kernel) (Nat.le_of_ble_eq_true rfl) dX3_init_7 rfl (fun D1 _ => ?_)
  refine g_putF fl_3_11 ft_3_0 ⟨TX3, 2, rfl⟩ rfl rfl rfl dX3_init_9 rfl (fun D2 => ?_)
  exact nx_vret dX3_init_12 rfl rfl
theorem cP_init (l : Launch) {Γ : nx_G} {M0 : Nat → Option va_E} {u : Nat} {D : nx_M} {x : Nat} {r : nx_M}  (h : fP_init u Γ D x = some r) : nx_Ct l Γ 1 yX3_init cX3_init 1 none [.ref x] (ov M0 D) (none, (ov M0 r)) :=
  nx_ct (out := fun r0 : nx_M => (none, (ov M0 r0))) [some (.ref x)] pn_RX3 h (Nat.le_of_ble_eq_true rfl) rfl (fun X Z _ => jP_init  u D x X Z)
theorem dX7_init_0 : decode cX7_init 0 = .ok (.aload_n 0, 1) := by decide +kernel
theorem dX7_init_1 : decode cX7_init 1 = .ok (.invokespecial 1, 3) := by decide +kernel
theorem dX7_init_4 : decode cX7_init 4 = .ok (.aload_n 0, 1) := by decide +kernel
theorem dX7_init_5 : decode cX7_init 5 = .ok (.new 7, 3) := by decide +kernel
theorem dX7_init_8 : decode cX7_init 8 = .ok (.dup, 1) := by decide +kernel
theorem dX7_init_9 : decode cX7_init 9 = .ok (.invokespecial 9, 3) := by decide +kernel
theorem dX7_init_12 : decode cX7_init 12 = .ok (.putfield 10, 3) := by decide +kernel
theorem dX7_init_15 : decode cX7_init 15 = .ok (.aload_n 0, 1) := by decide +kernel
theorem dX7_init_16 : decode cX7_init 16 = .ok (.new 16, 3) := by decide +kernel
theorem dX7_init_19 : decode cX7_init 19 = .ok (.dup, 1) := by decide +kernel
theorem dX7_init_20 : decode cX7_init 20 = .ok (.invokespecial 18, 3) := by decide +kernel
theorem dX7_init_23 : decode cX7_init 23 = .ok (.putfield 19, 3) := by decide +kernel
theorem dX7_init_26 : decode cX7_init 26 = .ok (.aload_n 0, 1) := by decide +kernel
theorem dX7_init_27 : decode cX7_init 27 = .ok (.iconst 4, 1) := by decide +kernel
theorem dX7_init_28 : decode cX7_init 28 = .ok (.anewarray 23, 3) := by decide +kernel
theorem dX7_init_31 : decode cX7_init 31 = .ok (.putfield 25, 3) := by decide +kernel
theorem dX7_init_34 : decode cX7_init 34 = .ok (.aload_n 0, 1) := by decide +kernel
theorem dX7_init_35 : decode cX7_init 35 = .ok (.new 23, 3) := by decide +kernel
theorem dX7_init_38 : decode cX7_init 38 = .ok (.dup, 1) := by decide +kernel
theorem dX7_init_39 : decode cX7_init 39 = .ok (.invokespecial 29, 3) := by decide +kernel
theorem dX7_init_42 : decode cX7_init 42 = .ok (.putfield 30, 3) := by decide +kernel
theorem dX7_init_45 : decode cX7_init 45 = .ok (.aload_n 0, 1) := by decide +kernel
theorem dX7_init_46 : decode cX7_init 46 = .ok (.new 34, 3) := by decide +kernel
theorem dX7_init_49 : decode cX7_init 49 = .ok (.dup, 1) := by decide +kernel
theorem dX7_init_50 : decode cX7_init 50 = .ok (.invokespecial 36, 3) := by decide +kernel
theorem dX7_init_53 : decode cX7_init 53 = .ok (.putfield 37, 3) := by decide +kernel
theorem dX7_init_56 : decode cX7_init 56 = .ok (.aload_n 0, 1) := by decide +kernel
theorem dX7_init_57 : decode cX7_init 57 = .ok (.new 41, 3) := by decide +kernel
theorem dX7_init_60 : decode cX7_init 60 = .ok (.dup, 1) := by decide +kernel
theorem dX7_init_61 : decode cX7_init 61 = .ok (.invokespecial 43, 3) := by decide +kernel
theorem dX7_init_64 : decode cX7_init 64 = .ok (.putfield 44, 3) := by decide +kernel
theorem dX7_init_67 : decode cX7_init 67 = .ok (.aload_n 0, 1) := by decide +kernel
theorem dX7_init_68 : decode cX7_init 68 = .ok (.new 34, 3) := by decide +kernel
theorem dX7_init_71 : decode cX7_init 71 = .ok (.dup, 1) := by decide +kernel
theorem dX7_init_72 : decode cX7_init 72 = .ok (.invokespecial 36, 3) := by decide +kernel
theorem dX7_init_75 : decode cX7_init 75 = .ok (.putfield 48, 3) := by decide +kernel
theorem dX7_init_78 : decode cX7_init 78 = .ok (.aload_n 0, 1) := by decide +kernel
theorem dX7_init_79 : decode cX7_init 79 = .ok (.new 51, 3) := by decide +kernel
theorem dX7_init_82 : decode cX7_init 82 = .ok (.dup, 1) := by decide +kernel
theorem dX7_init_83 : decode cX7_init 83 = .ok (.invokespecial 53, 3) := by decide +kernel
theorem dX7_init_86 : decode cX7_init 86 = .ok (.putfield 54, 3) := by decide +kernel
theorem dX7_init_89 : decode cX7_init 89 = .ok (.aload_n 0, 1) := by decide +kernel
theorem dX7_init_90 : decode cX7_init 90 = .ok (.new 58, 3) := by decide +kernel
theorem dX7_init_93 : decode cX7_init 93 = .ok (.dup, 1) := by decide +kernel
theorem dX7_init_94 : decode cX7_init 94 = .ok (.invokespecial 60, 3) := by decide +kernel
theorem dX7_init_97 : decode cX7_init 97 = .ok (.putfield 61, 3) := by decide +kernel
theorem dX7_init_100 : decode cX7_init 100 = .ok (.aload_n 0, 1) := by decide +kernel
theorem dX7_init_101 : decode cX7_init 101 = .ok (.iconst 4, 1) := by decide +kernel
theorem dX7_init_102 : decode cX7_init 102 = .ok (.newarray .int, 2) := by decide +kernel
theorem dX7_init_104 : decode cX7_init 104 = .ok (.putfield 65, 3) := by decide +kernel
theorem dX7_init_107 : decode cX7_init 107 = .ok (.return_, 1) := by decide +kernel
def fC_init (u : Nat) (Γ : nx_G) (D : nx_M) (x : Nat) : Option (nx_M) :=
  (some (nx_al D (.inr (5, [.null, .int 0, .int 0, .int 0])) 4)).bind fun D1 =>
  (fT_init u Γ D1 D.2.1).bind fun D2 =>
  (gPut D2 x 7 0 (.ref D.2.1)).bind fun D3 =>
  (some (nx_al D3 (.inr (4, [.null, .null, .int 0, .int 0])) 4)).bind fun D4 =>
  (fO_init u Γ D4 D3.2.1).bind fun D5 =>
  (gPut D5 x 7 1 (.ref D3.2.1)).bind fun D6 =>
  (some (nx_al D6 (.inl (Γ.2.2.2.1 3, 4, .inr (.inr (.inr (.inr (fun _ => none)))))) 4)).bind fun D7 =>
  (gPut D7 x 7 2 (.ref D6.2.1)).bind fun D8 =>
  (some (nx_al D8 (.inr (3, [.null, .int 0])) 2)).bind fun D9 =>
  (fP_init u Γ D9 D8.2.1).bind fun D10 =>
  (gPut D10 x 7 3 (.ref D8.2.1)).bind fun D11 =>
  (some (nx_al D11 (.inr (6, [.null])) 1)).bind fun D12 =>
  (fW_init u Γ D12 D11.2.1).bind fun D13 =>
  (gPut D13 x 7 5 (.ref D11.2.1)).bind fun D14 =>
  (some (nx_al D14 (.inr (2, [.null, .int 0, .int 0])) 3)).bind fun D15 =>
  (fQ_init u Γ D15 D14.2.1).bind fun D16 =>
  (gPut D16 x 7 6 (.ref D14.2.1)).bind fun D17 =>
  (some (nx_al D17 (.inr (6, [.null])) 1)).bind fun D18 =>
  (fW_init u Γ D18 D17.2.1).bind fun D19 =>
  (gPut D19 x 7 7 (.ref D17.2.1)).bind fun D20 =>
  (some (nx_al D20 (.inr (0, [.null, .int 0, .int 0, .int 0, .int 0, .int 0])) 6)).bind fun D21 =>
  (fA_init u Γ D21 D20.2.1).bind fun D22 =>
  (gPut D22 x 7 9 (.ref D20.2.1)).bind fun D23 =>
  (some (nx_al D23 (.inr (1, [.long 0])) 1)).bind fun D24 =>
  (fR_init u Γ D24 D23.2.1).bind fun D25 =>
  (gPut D25 x 7 10 (.ref D23.2.1)).bind fun D26 =>
  (some (nx_al D26 (.inl (Γ.2.2.2.1 0, 4, .inl (fun _ => 0))) 4)).bind fun D27 =>
  (gPut D27 x 7 11 (.ref D26.2.1)).bind fun D28 =>
  some D28
set_option maxRecDepth 4000 in
theorem jC_init {Γ : nx_G} {M0 : Nat → Option va_E} (u : Nat) (D : nx_M) (x : Nat)   (X : nx_X) (Z : nx_Z) : nx_J Γ X (RX7, cX7_init, 1, none, "<init>", 2) Z (fun r0 : nx_M => .inr (none, (ov M0 r0))) (.inl (0, [some (.ref x)], [], (ov M0 D))) (fC_init u Γ D x) := by
  unfold fC_init
  refine nx_aload_n rfl dX7_init_0 rfl ?_
  refine nx_objInit wd_213 wd_214 wd_215 (Nat.le_of_ble_eq_true rfl) (Nat.le_of_ble_eq_true rfl) dX7_init_1 rfl ?_
  refine nx_aload_n rfl dX7_init_4 rfl ?_
  refine g_new cn_7_7 dX7_init_5 rfl (fun D1 _ => ?_)
  refine nx_dup rfl dX7_init_8 rfl ?_
  refine nx_callI (mem := fun r => ov M0 r) [] cw_7_9 wd_219 rfl (fun r e => cT_init X.2.1 e) rfl rfl (Nat.le_of_ble_eq_true rfl) (Nat.le_of_ble_eq_true rfl) dX7_init_9 rfl (fun D2 => ?_)
  refine g_putF fl_7_10 ft_7_0 ⟨TX7, 12, rfl⟩ rfl rfl rfl dX7_init_12 rfl (fun D3 => ?_)
  refine nx_aload_n rfl dX7_init_15 rfl ?_
  refine g_new cn_7_16 dX7_init_16 rfl (fun D4 _ => ?_)
  refine nx_dup rfl dX7_init_19 rfl ?_
  refine nx_callI (mem := fun r => ov M0 r) [] cw_7_18 wd_245 rfl (fun r e => cO_init X.2.1 e) rfl rfl (Nat.le_of_ble_eq_true rfl) (Nat.le_of_ble_eq_true rfl) dX7_init_20 rfl (fun D5 => ?_)
  refine g_putF fl_7_19 ft_7_1 ⟨TX7, 12, rfl⟩ rfl rfl rfl dX7_init_23 rfl (fun D6 => ?_)
  refine nx_aload_n rfl dX7_init_26 rfl ?_
  refine nx_iconst dX7_init_27 rfl ?_
  refine g_newQ (t := 3) (Or.inr rfl) wd_264 rfl (by decide +kernel) (by decide +kernel) (Nat.le_of_ble_eq_true rfl) dX7_init_28 rfl (fun D7 _ => ?_)
  refine g_putF fl_7_25 ft_7_2 ⟨TX7, 12, rfl⟩ rfl rfl rfl dX7_init_31 rfl (fun D8 => ?_)
  refine nx_aload_n rfl dX7_init_34 rfl ?_
  refine g_new cn_7_23 dX7_init_35 rfl (fun D9 _ => ?_)
  refine nx_dup rfl dX7_init_38 rfl ?_
  refine nx_callI (mem := fun r => ov M0 r) [] cw_7_29 wd_268 rfl (fun r e => cP_init X.2.1 e) rfl rfl (Nat.le_of_ble_eq_true rfl) (Nat.le_of_ble_eq_true rfl) dX7_init_39 rfl (fun D10 => ?_)
  refine g_put (Or.inl fl_7_30) ft_7_3 rfl rfl dX7_init_42 rfl (fun D11 => ?_)
  refine nx_aload_n rfl dX7_init_45 rfl ?_
  refine g_new cn_7_34 dX7_init_46 rfl (fun D12 _ => ?_)
  refine nx_dup rfl dX7_init_49 rfl ?_
  refine nx_callI (mem := fun r => ov M0 r) [] cw_7_36 wd_283 rfl (fun r e => cW_init X.2.1 e) rfl rfl (Nat.le_of_ble_eq_true rfl) (Nat.le_of_ble_eq_true rfl) dX7_init_50 rfl (fun D13 => ?_)
  refine g_putF fl_7_37 ft_7_5 ⟨TX7, 12, rfl⟩ rfl rfl rfl dX7_init_53 rfl (fun D14 => ?_)
  refine nx_aload_n rfl dX7_init_56 rfl ?_
  refine g_new cn_7_41 dX7_init_57 rfl (fun D15 _ => ?_)
  refine nx_dup rfl dX7_init_60 rfl ?_
  refine nx_callI (mem := fun r => ov M0 r) [] cw_7_43 wd_294 rfl (fun r e => cQ_init X.2.1 e) rfl rfl (Nat.le_of_ble_eq_true rfl) (Nat.le_of_ble_eq_true rfl) dX7_init_61 rfl (fun D16 => ?_)
  refine g_putF fl_7_44 ft_7_6 ⟨TX7, 12, rfl⟩ rfl rfl rfl dX7_init_64 rfl (fun D17 => ?_)
  refine nx_aload_n rfl dX7_init_67 rfl ?_
  refine g_new cn_7_34 dX7_init_68 rfl (fun D18 _ => ?_)
  refine nx_dup rfl dX7_init_71 rfl ?_
  refine nx_callI (mem := fun r => ov M0 r) [] cw_7_36 wd_283 rfl (fun r e => cW_init X.2.1 e) rfl rfl (Nat.le_of_ble_eq_true rfl) (Nat.le_of_ble_eq_true rfl) dX7_init_72 rfl (fun D19 => ?_)
  refine g_putF fl_7_48 ft_7_7 ⟨TX7, 12, rfl⟩ rfl rfl rfl dX7_init_75 rfl (fun D20 => ?_)
  refine nx_aload_n rfl dX7_init_78 rfl ?_
  refine g_new cn_7_51 dX7_init_79 rfl (fun D21 _ => ?_)
  refine nx_dup rfl dX7_init_82 rfl ?_
  refine nx_callI (mem := fun r => ov M0 r) [] cw_7_53 wd_313 rfl (fun r e => cA_init X.2.1 e) rfl rfl (Nat.le_of_ble_eq_true rfl) (Nat.le_of_ble_eq_true rfl) dX7_init_83 rfl (fun D22 => ?_)
  refine g_putF fl_7_54 ft_7_9 ⟨TX7, 12, rfl⟩ rfl rfl rfl dX7_init_86 rfl (fun D23 => ?_)
  refine nx_aload_n rfl dX7_init_89 rfl ?_
  refine g_new cn_7_58 dX7_init_90 rfl (fun D24 _ => ?_)
  refine nx_dup rfl dX7_init_93 rfl ?_
  refine nx_callI (mem := fun r => ov M0 r) [] cw_7_60 wd_339 rfl (fun r e => cR_init X.2.1 e) rfl rfl (Nat.le_of_ble_eq_true rfl) (Nat.le_of_ble_eq_true rfl) dX7_init_94 rfl (fun D25 => ?_)
  refine g_putF fl_7_61 ft_7_10 ⟨TX7, 12, rfl⟩ rfl rfl rfl dX7_init_97 rfl (fun D26 => ?_)
  refine nx_aload_n rfl dX7_init_100 rfl ?_
  refine nx_iconst dX7_init_101 rfl ?_
  refine g_newI wd_241 (by decide +kernel) (by decide +kernel) (Nat.le_of_ble_eq_true rfl) dX7_init_102 rfl (fun D27 _ => ?_)
  refine g_putF fl_7_65 ft_7_11 ⟨TX7, 12, rfl⟩ rfl rfl rfl dX7_init_104 rfl (fun D28 => ?_)
  exact nx_vret dX7_init_107 rfl rfl
theorem cC_init (l : Launch) {Γ : nx_G} {M0 : Nat → Option va_E} {u : Nat} {D : nx_M} {x : Nat} {r : nx_M}  (h : fC_init u Γ D x = some r) : nx_Ct l Γ 2 yX7_init cX7_init 1 none [.ref x] (ov M0 D) (none, (ov M0 r)) :=
  nx_ct (out := fun r0 : nx_M => (none, (ov M0 r0))) [some (.ref x)] pn_RX7 h (Nat.le_of_ble_eq_true rfl) rfl (fun X Z _ => jC_init  u D x X Z)
theorem dX7_feed_0 : decode cX7_feed 0 = .ok (.iload_n 1, 1) := by decide +kernel
theorem dX7_feed_1 : decode cX7_feed 1 = .ok (.invokestatic 69, 3) := by decide +kernel
theorem dX7_feed_4 : decode cX7_feed 4 = .ok (.iload_n 2, 1) := by decide +kernel
theorem dX7_feed_5 : decode cX7_feed 5 = .ok (.invokestatic 69, 3) := by decide +kernel
theorem dX7_feed_8 : decode cX7_feed 8 = .ok (.iadd, 1) := by decide +kernel
theorem dX7_feed_9 : decode cX7_feed 9 = .ok (.iload_n 3, 1) := by decide +kernel
theorem dX7_feed_10 : decode cX7_feed 10 = .ok (.invokestatic 69, 3) := by decide +kernel
theorem dX7_feed_13 : decode cX7_feed 13 = .ok (.iadd, 1) := by decide +kernel
theorem dX7_feed_14 : decode cX7_feed 14 = .ok (.iload 4, 2) := by decide +kernel
theorem dX7_feed_16 : decode cX7_feed 16 = .ok (.invokestatic 69, 3) := by decide +kernel
theorem dX7_feed_19 : decode cX7_feed 19 = .ok (.iadd, 1) := by decide +kernel
theorem dX7_feed_20 : decode cX7_feed 20 = .ok (.iload 5, 2) := by decide +kernel
theorem dX7_feed_22 : decode cX7_feed 22 = .ok (.invokestatic 69, 3) := by decide +kernel
theorem dX7_feed_25 : decode cX7_feed 25 = .ok (.iadd, 1) := by decide +kernel
theorem dX7_feed_26 : decode cX7_feed 26 = .ok (.istore 6, 2) := by decide +kernel
theorem dX7_feed_28 : decode cX7_feed 28 = .ok (.aload_n 0, 1) := by decide +kernel
theorem dX7_feed_29 : decode cX7_feed 29 = .ok (.getfield 10, 3) := by decide +kernel
theorem dX7_feed_32 : decode cX7_feed 32 = .ok (.getfield 73, 3) := by decide +kernel
theorem dX7_feed_35 : decode cX7_feed 35 = .ok (.iload 6, 2) := by decide +kernel
theorem dX7_feed_37 : decode cX7_feed 37 = .ok (.iadd, 1) := by decide +kernel
theorem dX7_feed_38 : decode cX7_feed 38 = .ok (.sipush 240, 3) := by decide +kernel
theorem dX7_feed_41 : decode cX7_feed 41 = .ok (.if_icmp .le 5, 3) := by decide +kernel
theorem dX7_feed_44 : decode cX7_feed 44 = .ok (.iconst (-1), 1) := by decide +kernel
theorem dX7_feed_45 : decode cX7_feed 45 = .ok (.ireturn, 1) := by decide +kernel
theorem dX7_feed_46 : decode cX7_feed 46 = .ok (.aload_n 0, 1) := by decide +kernel
theorem dX7_feed_47 : decode cX7_feed 47 = .ok (.getfield 10, 3) := by decide +kernel
theorem dX7_feed_50 : decode cX7_feed 50 = .ok (.iload_n 1, 1) := by decide +kernel
theorem dX7_feed_51 : decode cX7_feed 51 = .ok (.invokevirtual 77, 3) := by decide +kernel
theorem dX7_feed_54 : decode cX7_feed 54 = .ok (.aload_n 0, 1) := by decide +kernel
theorem dX7_feed_55 : decode cX7_feed 55 = .ok (.getfield 10, 3) := by decide +kernel
theorem dX7_feed_58 : decode cX7_feed 58 = .ok (.iload_n 2, 1) := by decide +kernel
theorem dX7_feed_59 : decode cX7_feed 59 = .ok (.invokevirtual 77, 3) := by decide +kernel
theorem dX7_feed_62 : decode cX7_feed 62 = .ok (.aload_n 0, 1) := by decide +kernel
theorem dX7_feed_63 : decode cX7_feed 63 = .ok (.getfield 10, 3) := by decide +kernel
theorem dX7_feed_66 : decode cX7_feed 66 = .ok (.iload_n 3, 1) := by decide +kernel
theorem dX7_feed_67 : decode cX7_feed 67 = .ok (.invokevirtual 77, 3) := by decide +kernel
theorem dX7_feed_70 : decode cX7_feed 70 = .ok (.aload_n 0, 1) := by decide +kernel
theorem dX7_feed_71 : decode cX7_feed 71 = .ok (.getfield 10, 3) := by decide +kernel
theorem dX7_feed_74 : decode cX7_feed 74 = .ok (.iload 4, 2) := by decide +kernel
theorem dX7_feed_76 : decode cX7_feed 76 = .ok (.invokevirtual 77, 3) := by decide +kernel
theorem dX7_feed_79 : decode cX7_feed 79 = .ok (.aload_n 0, 1) := by decide +kernel
theorem dX7_feed_80 : decode cX7_feed 80 = .ok (.getfield 10, 3) := by decide +kernel
theorem dX7_feed_83 : decode cX7_feed 83 = .ok (.iload 5, 2) := by decide +kernel
theorem dX7_feed_85 : decode cX7_feed 85 = .ok (.invokevirtual 77, 3) := by decide +kernel
theorem dX7_feed_88 : decode cX7_feed 88 = .ok (.aload_n 0, 1) := by decide +kernel
theorem dX7_feed_89 : decode cX7_feed 89 = .ok (.getfield 10, 3) := by decide +kernel
theorem dX7_feed_92 : decode cX7_feed 92 = .ok (.getfield 73, 3) := by decide +kernel
theorem dX7_feed_95 : decode cX7_feed 95 = .ok (.ireturn, 1) := by decide +kernel
def fC_feed (u : Nat) (Γ : nx_G) (D : nx_M) (x : Nat) (a1 : Int32) (a2 : Int32) (a3 : Int32) (a4 : Int32) (a5 : Int32) : Option (Int32 × nx_M) :=
  (fT_bytesIn u a1).bind fun x1 =>
  (fT_bytesIn u a2).bind fun x2 =>
  (fT_bytesIn u a3).bind fun x3 =>
  (fT_bytesIn u a4).bind fun x4 =>
  (fT_bytesIn u a5).bind fun x5 =>
  (gR D x 7 0).bind fun q6 =>
  (gI D q6 5 1).bind fun x7 =>
  if (x7 + ((((x1 + x2) + x3) + x4) + x5)) ≤ (iz 240) then
    (gR D x 7 0).bind fun q8 =>
    (gR D x 7 3).bind fun q9 =>
    (tWv2 Γ D q8 q9 (fun g => fT_take u g a1)).bind fun D10 =>
    (gR D10 x 7 0).bind fun q11 =>
    (gR D10 x 7 3).bind fun q12 =>
    (tWv2 Γ D10 q11 q12 (fun g => fT_take u g a2)).bind fun D13 =>
    (gR D13 x 7 0).bind fun q14 =>
    (gR D13 x 7 3).bind fun q15 =>
    (tWv2 Γ D13 q14 q15 (fun g => fT_take u g a3)).bind fun D16 =>
    (gR D16 x 7 0).bind fun q17 =>
    (gR D16 x 7 3).bind fun q18 =>
    (tWv2 Γ D16 q17 q18 (fun g => fT_take u g a4)).bind fun D19 =>
    (gR D19 x 7 0).bind fun q20 =>
    (gR D19 x 7 3).bind fun q21 =>
    (tWv2 Γ D19 q20 q21 (fun g => fT_take u g a5)).bind fun D22 =>
    (gR D22 x 7 0).bind fun q23 =>
    (gI D22 q23 5 1).bind fun x24 =>
    some (x24, D22)
  else
    some ((iz (-1)), D)
set_option maxRecDepth 4000 in
theorem jC_feed {Γ : nx_G} {M0 : Nat → Option va_E} (u : Nat) (D : nx_M) (x : Nat) (a1 : Int32) (a2 : Int32) (a3 : Int32) (a4 : Int32) (a5 : Int32)   (X : nx_X) (Z : nx_Z) : nx_J Γ X (RX7, cX7_feed, 7, (some .int), "feed", 2) Z (fun r0 : Int32 × nx_M => .inr (some (.int r0.1), (ov M0 r0.2))) (.inl (0, [some (.ref x), some (.int a1), some (.int a2), some (.int a3), some (.int a4), some (.int a5), none], [], (ov M0 D))) (fC_feed u Γ D x a1 a2 a3 a4 a5) := by
  unfold fC_feed
  refine nx_iload_n rfl dX7_feed_0 rfl ?_
  refine nx_callSr [.int a1] (fun r => .int r) (fun _ => (ov M0 D)) cw_7_69 wd_388 (fun r e => cT_bytesIn X.2.1  e) rfl rfl (Nat.le_of_ble_eq_true rfl) (Nat.le_of_ble_eq_true rfl) dX7_feed_1 rfl (fun x1 => ?_)
  refine nx_iload_n rfl dX7_feed_4 rfl ?_
  refine nx_callSr [.int a2] (fun r => .int r) (fun _ => (ov M0 D)) cw_7_69 wd_388 (fun r e => cT_bytesIn X.2.1  e) rfl rfl (Nat.le_of_ble_eq_true rfl) (Nat.le_of_ble_eq_true rfl) dX7_feed_5 rfl (fun x2 => ?_)
  refine nx_iadd dX7_feed_8 rfl ?_
  refine nx_iload_n rfl dX7_feed_9 rfl ?_
  refine nx_callSr [.int a3] (fun r => .int r) (fun _ => (ov M0 D)) cw_7_69 wd_388 (fun r e => cT_bytesIn X.2.1  e) rfl rfl (Nat.le_of_ble_eq_true rfl) (Nat.le_of_ble_eq_true rfl) dX7_feed_10 rfl (fun x3 => ?_)
  refine nx_iadd dX7_feed_13 rfl ?_
  refine nx_iload rfl dX7_feed_14 rfl ?_
  refine nx_callSr [.int a4] (fun r => .int r) (fun _ => (ov M0 D)) cw_7_69 wd_388 (fun r e => cT_bytesIn X.2.1  e) rfl rfl (Nat.le_of_ble_eq_true rfl) (Nat.le_of_ble_eq_true rfl) dX7_feed_16 rfl (fun x4 => ?_)
  refine nx_iadd dX7_feed_19 rfl ?_
  refine nx_iload rfl dX7_feed_20 rfl ?_
  refine nx_callSr [.int a5] (fun r => .int r) (fun _ => (ov M0 D)) cw_7_69 wd_388 (fun r e => cT_bytesIn X.2.1  e) rfl rfl (Nat.le_of_ble_eq_true rfl) (Nat.le_of_ble_eq_true rfl) dX7_feed_22 rfl (fun x5 => ?_)
  refine nx_iadd dX7_feed_25 rfl ?_
  refine nx_istore [some (.ref x), some (.int a1), some (.int a2), some (.int a3), some (.int a4), some (.int a5), some (.int ((((x1 + x2) + x3) + x4) + x5))] dX7_feed_26 rfl (Nat.le_of_ble_eq_true rfl) rfl rfl ?_
  refine nx_aload_n rfl dX7_feed_28 rfl ?_
  refine g_getr (Or.inl fl_7_10) dX7_feed_29 rfl (fun q6 => ?_)
  refine g_geti (Or.inr fl_7_73) dX7_feed_32 rfl (fun x7 => ?_)
  refine nx_iload rfl dX7_feed_35 rfl ?_
  refine nx_iadd dX7_feed_37 rfl ?_
  refine nx_sipush (by decide +kernel) dX7_feed_38 rfl ?_
  refine nx_icmp_le (t := 46) dX7_feed_41 (by decide) rfl ?_ ?_
  · refine nx_aload_n rfl dX7_feed_46 rfl ?_
    refine g_getr (Or.inl fl_7_10) dX7_feed_47 rfl (fun q8 => ?_)
    refine nx_iload_n rfl dX7_feed_50 rfl ?_
    refine nx_guard (fun q9 _ => ?_)
    refine g_callTv (t := q8) (p := q9) [.int a1] cw_7_77 cv_X5_take (fun M1 g h => ⟨_, tW_t⟩) (fun M1 g r h e => cT_take X.2.1 h e) rfl rfl (Nat.le_of_ble_eq_true rfl) (Nat.le_of_ble_eq_true rfl) dX7_feed_51 rfl (fun D10 => ?_)
    refine nx_aload_n rfl dX7_feed_54 rfl ?_
    refine g_getr (Or.inl fl_7_10) dX7_feed_55 rfl (fun q11 => ?_)
    refine nx_iload_n rfl dX7_feed_58 rfl ?_
    refine nx_guard (fun q12 _ => ?_)
    refine g_callTv (t := q11) (p := q12) [.int a2] cw_7_77 cv_X5_take (fun M1 g h => ⟨_, tW_t⟩) (fun M1 g r h e => cT_take X.2.1 h e) rfl rfl (Nat.le_of_ble_eq_true rfl) (Nat.le_of_ble_eq_true rfl) dX7_feed_59 rfl (fun D13 => ?_)
    refine nx_aload_n rfl dX7_feed_62 rfl ?_
    refine g_getr (Or.inl fl_7_10) dX7_feed_63 rfl (fun q14 => ?_)
    refine nx_iload_n rfl dX7_feed_66 rfl ?_
    refine nx_guard (fun q15 _ => ?_)
    refine g_callTv (t := q14) (p := q15) [.int a3] cw_7_77 cv_X5_take (fun M1 g h => ⟨_, tW_t⟩) (fun M1 g r h e => cT_take X.2.1 h e) rfl rfl (Nat.le_of_ble_eq_true rfl) (Nat.le_of_ble_eq_true rfl) dX7_feed_67 rfl (fun D16 => ?_)
    refine nx_aload_n rfl dX7_feed_70 rfl ?_
    refine g_getr (Or.inl fl_7_10) dX7_feed_71 rfl (fun q17 => ?_)
    refine nx_iload rfl dX7_feed_74 rfl ?_
    refine nx_guard (fun q18 _ => ?_)
    refine g_callTv (t := q17) (p := q18) [.int a4] cw_7_77 cv_X5_take (fun M1 g h => ⟨_, tW_t⟩) (fun M1 g r h e => cT_take X.2.1 h e) rfl rfl (Nat.le_of_ble_eq_true rfl) (Nat.le_of_ble_eq_true rfl) dX7_feed_76 rfl (fun D19 => ?_)
    refine nx_aload_n rfl dX7_feed_79 rfl ?_
    refine g_getr (Or.inl fl_7_10) dX7_feed_80 rfl (fun q20 => ?_)
    refine nx_iload rfl dX7_feed_83 rfl ?_
    refine nx_guard (fun q21 _ => ?_)
    refine g_callTv (t := q20) (p := q21) [.int a5] cw_7_77 cv_X5_take (fun M1 g h => ⟨_, tW_t⟩) (fun M1 g r h e => cT_take X.2.1 h e) rfl rfl (Nat.le_of_ble_eq_true rfl) (Nat.le_of_ble_eq_true rfl) dX7_feed_85 rfl (fun D22 => ?_)
    refine nx_aload_n rfl dX7_feed_88 rfl ?_
    refine g_getr (Or.inl fl_7_10) dX7_feed_89 rfl (fun q23 => ?_)
    refine g_geti (Or.inr fl_7_73) dX7_feed_92 rfl (fun x24 => ?_)
    exact nx_iret dX7_feed_95 rfl rfl
  · refine nx_iconst dX7_feed_44 rfl ?_
    exact nx_iret dX7_feed_45 rfl rfl
theorem cC_feed (l : Launch) {Γ : nx_G} {M0 : Nat → Option va_E} {u : Nat} {D : nx_M} {x : Nat} {a1 : Int32} {a2 : Int32} {a3 : Int32} {a4 : Int32} {a5 : Int32} {r : Int32 × nx_M}  (h : fC_feed u Γ D x a1 a2 a3 a4 a5 = some r) : nx_Ct l Γ 2 yX7_feed cX7_feed 7 (some .int) [.ref x, .int a1, .int a2, .int a3, .int a4, .int a5] (ov M0 D) (some (.int r.1), (ov M0 r.2)) :=
  nx_ct (out := fun r0 : Int32 × nx_M => (some (.int r0.1), (ov M0 r0.2))) [some (.ref x), some (.int a1), some (.int a2), some (.int a3), some (.int a4), some (.int a5), none] pn_RX7 h (Nat.le_of_ble_eq_true rfl) rfl (fun X Z _ => jC_feed  u D x a1 a2 a3 a4 a5 X Z)
theorem dX7_end_0 : decode cX7_end 0 = .ok (.iload_n 1, 1) := by decide +kernel
theorem dX7_end_1 : decode cX7_end 1 = .ok (.ifCond .lt 14, 3) := by decide +kernel
theorem dX7_end_4 : decode cX7_end 4 = .ok (.iload_n 1, 1) := by decide +kernel
theorem dX7_end_5 : decode cX7_end 5 = .ok (.aload_n 0, 1) := by decide +kernel
theorem dX7_end_6 : decode cX7_end 6 = .ok (.getfield 10, 3) := by decide +kernel
theorem dX7_end_9 : decode cX7_end 9 = .ok (.getfield 73, 3) := by decide +kernel
theorem dX7_end_12 : decode cX7_end 12 = .ok (.if_icmp .le 5, 3) := by decide +kernel
theorem dX7_end_15 : decode cX7_end 15 = .ok (.iconst 0, 1) := by decide +kernel
theorem dX7_end_16 : decode cX7_end 16 = .ok (.ireturn, 1) := by decide +kernel
theorem dX7_end_17 : decode cX7_end 17 = .ok (.aload_n 0, 1) := by decide +kernel
theorem dX7_end_18 : decode cX7_end 18 = .ok (.getfield 10, 3) := by decide +kernel
theorem dX7_end_21 : decode cX7_end 21 = .ok (.iload_n 1, 1) := by decide +kernel
theorem dX7_end_22 : decode cX7_end 22 = .ok (.putfield 73, 3) := by decide +kernel
theorem dX7_end_25 : decode cX7_end 25 = .ok (.iconst 1, 1) := by decide +kernel
theorem dX7_end_26 : decode cX7_end 26 = .ok (.ireturn, 1) := by decide +kernel
def fC_end (u : Nat) (Γ : nx_G) (D : nx_M) (x : Nat) (a1 : Int32) : Option (Bool × nx_M) :=
  if a1 < iz 0 then
    some (false, D)
  else
    (gR D x 7 0).bind fun q1 =>
    (gI D q1 5 1).bind fun x2 =>
    if a1 ≤ x2 then
      (gR D x 7 0).bind fun q3 =>
      (gPut D q3 5 1 (.int a1)).bind fun D4 =>
      some (true, D4)
    else
      some (false, D)
set_option maxRecDepth 4000 in
theorem jC_end {Γ : nx_G} {M0 : Nat → Option va_E} (u : Nat) (D : nx_M) (x : Nat) (a1 : Int32)   (X : nx_X) (Z : nx_Z) : nx_J Γ X (RX7, cX7_end, 2, (some .boolean), "end", 1) Z (fun r0 : Bool × nx_M => .inr (some (.int (bz r0.1)), (ov M0 r0.2))) (.inl (0, [some (.ref x), some (.int a1)], [], (ov M0 D))) (fC_end u Γ D x a1) := by
  unfold fC_end
  refine nx_iload_n rfl dX7_end_0 rfl ?_
  refine nx_if_lt (t := 15) dX7_end_1 (by decide) rfl ?_ ?_
  · refine nx_iconst dX7_end_15 rfl ?_
    exact nx_zret (b := false) dX7_end_16 rfl rfl
  · refine nx_iload_n rfl dX7_end_4 rfl ?_
    refine nx_aload_n rfl dX7_end_5 rfl ?_
    refine g_getr (Or.inl fl_7_10) dX7_end_6 rfl (fun q1 => ?_)
    refine g_geti (Or.inr fl_7_73) dX7_end_9 rfl (fun x2 => ?_)
    refine nx_icmp_le (t := 17) dX7_end_12 (by decide) rfl ?_ ?_
    · refine nx_aload_n rfl dX7_end_17 rfl ?_
      refine g_getr (Or.inl fl_7_10) dX7_end_18 rfl (fun q3 => ?_)
      refine nx_iload_n rfl dX7_end_21 rfl ?_
      refine g_put (Or.inr fl_7_73) ft_5_1 rfl rfl dX7_end_22 rfl (fun D4 => ?_)
      refine nx_iconst dX7_end_25 rfl ?_
      exact nx_zret (b := true) dX7_end_26 rfl rfl
    · refine nx_iconst dX7_end_15 rfl ?_
      exact nx_zret (b := false) dX7_end_16 rfl rfl
theorem cC_end (l : Launch) {Γ : nx_G} {M0 : Nat → Option va_E} {u : Nat} {D : nx_M} {x : Nat} {a1 : Int32} {r : Bool × nx_M}  (h : fC_end u Γ D x a1 = some r) : nx_Ct l Γ 1 yX7_end cX7_end 2 (some .boolean) [.ref x, .int a1] (ov M0 D) (some (.int (bz r.1)), (ov M0 r.2)) :=
  nx_ct (out := fun r0 : Bool × nx_M => (some (.int (bz r0.1)), (ov M0 r0.2))) [some (.ref x), some (.int a1)] pn_RX7 h (Nat.le_of_ble_eq_true rfl) rfl (fun X Z _ => jC_end  u D x a1 X Z)
theorem dX7_fault_0 : decode cX7_fault 0 = .ok (.iload_n 1, 1) := by decide +kernel
theorem dX7_fault_1 : decode cX7_fault 1 = .ok (.ifCond .ne 15, 3) := by decide +kernel
theorem dX7_fault_4 : decode cX7_fault 4 = .ok (.aload_n 0, 1) := by decide +kernel
theorem dX7_fault_5 : decode cX7_fault 5 = .ok (.getfield 19, 3) := by decide +kernel
theorem dX7_fault_8 : decode cX7_fault 8 = .ok (.aload_n 0, 1) := by decide +kernel
theorem dX7_fault_9 : decode cX7_fault 9 = .ok (.getfield 10, 3) := by decide +kernel
theorem dX7_fault_12 : decode cX7_fault 12 = .ok (.invokevirtual 81, 3) := by decide +kernel
theorem dX7_fault_15 : decode cX7_fault 15 = .ok (.ireturn, 1) := by decide +kernel
theorem dX7_fault_16 : decode cX7_fault 16 = .ok (.iload_n 1, 1) := by decide +kernel
theorem dX7_fault_17 : decode cX7_fault 17 = .ok (.iconst 1, 1) := by decide +kernel
theorem dX7_fault_18 : decode cX7_fault 18 = .ok (.if_icmp .ne 17, 3) := by decide +kernel
theorem dX7_fault_21 : decode cX7_fault 21 = .ok (.aload_n 0, 1) := by decide +kernel
theorem dX7_fault_22 : decode cX7_fault 22 = .ok (.getfield 30, 3) := by decide +kernel
theorem dX7_fault_25 : decode cX7_fault 25 = .ok (.aload_n 0, 1) := by decide +kernel
theorem dX7_fault_26 : decode cX7_fault 26 = .ok (.getfield 10, 3) := by decide +kernel
theorem dX7_fault_29 : decode cX7_fault 29 = .ok (.invokevirtual 85, 3) := by decide +kernel
theorem dX7_fault_32 : decode cX7_fault 32 = .ok (.goto 5, 3) := by decide +kernel
theorem dX7_fault_35 : decode cX7_fault 35 = .ok (.bipush (-2), 2) := by decide +kernel
theorem dX7_fault_37 : decode cX7_fault 37 = .ok (.ireturn, 1) := by decide +kernel
def fC_fault (u : Nat) (Γ : nx_G) (D : nx_M) (x : Nat) (a1 : Int32) : Option (Int32 × nx_M) :=
  if a1 = iz 0 then
    (gR D x 7 1).bind fun q4 =>
    (gR D x 7 0).bind fun q5 =>
    (gR D x 7 3).bind fun q6 =>
    (eqg q4 (q5 + 2)).bind fun _ =>
    (tWr2 Γ D q5 q6 (fun g => fT_faultOf u g)).bind fun p7 =>
    some (p7.1, p7.2)
  else
    if a1 = (iz 1) then
      (gR D x 7 3).bind fun q1 =>
      (gR D x 7 0).bind fun q2 =>
      (tWr2 Γ D q2 q1 (fun g => fP_faultOf u g)).bind fun p3 =>
      some (p3.1, p3.2)
    else
      some ((iz (-2)), D)
set_option maxRecDepth 4000 in
theorem jC_fault {Γ : nx_G} {M0 : Nat → Option va_E} (u : Nat) (D : nx_M) (x : Nat) (a1 : Int32)   (X : nx_X) (Z : nx_Z) : nx_J Γ X (RX7, cX7_fault, 2, (some .int), "fault", 7) Z (fun r0 : Int32 × nx_M => .inr (some (.int r0.1), (ov M0 r0.2))) (.inl (0, [some (.ref x), some (.int a1)], [], (ov M0 D))) (fC_fault u Γ D x a1) := by
  unfold fC_fault
  refine nx_iload_n rfl dX7_fault_0 rfl ?_
  refine nx_if_ne (t := 16) dX7_fault_1 (by decide) rfl ?_ ?_
  · refine nx_iload_n rfl dX7_fault_16 rfl ?_
    refine nx_iconst dX7_fault_17 rfl ?_
    refine nx_icmp_ne (t := 35) dX7_fault_18 (by decide) rfl ?_ ?_
    · refine nx_bipush (by decide +kernel) dX7_fault_35 rfl ?_
      exact nx_iret dX7_fault_37 rfl rfl
    · refine nx_aload_n rfl dX7_fault_21 rfl ?_
      refine g_getr (Or.inl fl_7_30) dX7_fault_22 rfl (fun q1 => ?_)
      refine nx_aload_n rfl dX7_fault_25 rfl ?_
      refine g_getr (Or.inl fl_7_10) dX7_fault_26 rfl (fun q2 => ?_)
      refine g_callTw (t := q2) (p := q1) [.ref q2] (fun r => .int r) cw_7_85 cv_X3_faultOf (fun M1 g h => ⟨_, tW_p h⟩) (fun M1 g r h e => cP_faultOf X.2.1 h e) rfl rfl (Nat.le_of_ble_eq_true rfl) (Nat.le_of_ble_eq_true rfl) dX7_fault_29 rfl (fun p3 => ?_)
      refine nx_goto (q := 37) dX7_fault_32 (by decide) ?_
      exact nx_iret dX7_fault_37 rfl rfl
  · refine nx_aload_n rfl dX7_fault_4 rfl ?_
    refine g_getr (Or.inl fl_7_19) dX7_fault_5 rfl (fun q4 => ?_)
    refine nx_aload_n rfl dX7_fault_8 rfl ?_
    refine g_getr (Or.inl fl_7_10) dX7_fault_9 rfl (fun q5 => ?_)
    refine nx_guard (fun q6 _ => ?_)
    refine nx_guard (fun _ hz => ?_)
    obtain rfl := eqg_spec hz
    refine g_callTw (t := q5) (p := q6) [.ref q5] (fun r => .int r) cw_7_81 cv_X4_faultOf (fun M1 g h => ⟨_, tW_s⟩) (fun M1 g r h e => cT_faultOf X.2.1 h e) rfl rfl (Nat.le_of_ble_eq_true rfl) (Nat.le_of_ble_eq_true rfl) dX7_fault_12 rfl (fun p7 => ?_)
    exact nx_iret dX7_fault_15 rfl rfl
theorem cC_fault (l : Launch) {Γ : nx_G} {M0 : Nat → Option va_E} {u : Nat} {D : nx_M} {x : Nat} {a1 : Int32} {r : Int32 × nx_M}  (h : fC_fault u Γ D x a1 = some r) : nx_Ct l Γ 7 yX7_fault cX7_fault 2 (some .int) [.ref x, .int a1] (ov M0 D) (some (.int r.1), (ov M0 r.2)) :=
  nx_ct (out := fun r0 : Int32 × nx_M => (some (.int r0.1), (ov M0 r0.2))) [some (.ref x), some (.int a1)] pn_RX7 h (Nat.le_of_ble_eq_true rfl) rfl (fun X Z _ => jC_fault  u D x a1 X Z)
theorem dX6_begin_0 : decode cX6_begin 0 = .ok (.iconst 0, 1) := by decide +kernel
theorem dX6_begin_1 : decode cX6_begin 1 = .ok (.istore_n 2, 1) := by decide +kernel
theorem dX6_begin_2 : decode cX6_begin 2 = .ok (.iload_n 2, 1) := by decide +kernel
theorem dX6_begin_3 : decode cX6_begin 3 = .ok (.sipush 514, 3) := by decide +kernel
theorem dX6_begin_6 : decode cX6_begin 6 = .ok (.if_icmp .ge 16, 3) := by decide +kernel
theorem dX6_begin_9 : decode cX6_begin 9 = .ok (.aload_n 0, 1) := by decide +kernel
theorem dX6_begin_10 : decode cX6_begin 10 = .ok (.getfield 11, 3) := by decide +kernel
theorem dX6_begin_13 : decode cX6_begin 13 = .ok (.iload_n 2, 1) := by decide +kernel
theorem dX6_begin_14 : decode cX6_begin 14 = .ok (.iconst 0, 1) := by decide +kernel
theorem dX6_begin_15 : decode cX6_begin 15 = .ok (.iastore, 1) := by decide +kernel
theorem dX6_begin_16 : decode cX6_begin 16 = .ok (.iinc 2 1, 3) := by decide +kernel
theorem dX6_begin_19 : decode cX6_begin 19 = .ok (.goto (-17), 3) := by decide +kernel
theorem dX6_begin_22 : decode cX6_begin 22 = .ok (.iconst 0, 1) := by decide +kernel
theorem dX6_begin_23 : decode cX6_begin 23 = .ok (.istore_n 2, 1) := by decide +kernel
theorem dX6_begin_24 : decode cX6_begin 24 = .ok (.iload_n 2, 1) := by decide +kernel
theorem dX6_begin_25 : decode cX6_begin 25 = .ok (.iconst 3, 1) := by decide +kernel
theorem dX6_begin_26 : decode cX6_begin 26 = .ok (.if_icmp .ge 23, 3) := by decide +kernel
theorem dX6_begin_29 : decode cX6_begin 29 = .ok (.aload_n 0, 1) := by decide +kernel
theorem dX6_begin_30 : decode cX6_begin 30 = .ok (.getfield 11, 3) := by decide +kernel
theorem dX6_begin_33 : decode cX6_begin 33 = .ok (.iconst 0, 1) := by decide +kernel
theorem dX6_begin_34 : decode cX6_begin 34 = .ok (.iload_n 2, 1) := by decide +kernel
theorem dX6_begin_35 : decode cX6_begin 35 = .ok (.iadd, 1) := by decide +kernel
theorem dX6_begin_36 : decode cX6_begin 36 = .ok (.aload_n 1, 1) := by decide +kernel
theorem dX6_begin_37 : decode cX6_begin 37 = .ok (.getfield 17, 3) := by decide +kernel
theorem dX6_begin_40 : decode cX6_begin 40 = .ok (.iload_n 2, 1) := by decide +kernel
theorem dX6_begin_41 : decode cX6_begin 41 = .ok (.iaload, 1) := by decide +kernel
theorem dX6_begin_42 : decode cX6_begin 42 = .ok (.iastore, 1) := by decide +kernel
theorem dX6_begin_43 : decode cX6_begin 43 = .ok (.iinc 2 1, 3) := by decide +kernel
theorem dX6_begin_46 : decode cX6_begin 46 = .ok (.goto (-22), 3) := by decide +kernel
theorem dX6_begin_49 : decode cX6_begin 49 = .ok (.aload_n 0, 1) := by decide +kernel
theorem dX6_begin_50 : decode cX6_begin 50 = .ok (.getfield 11, 3) := by decide +kernel
theorem dX6_begin_53 : decode cX6_begin 53 = .ok (.iconst 3, 1) := by decide +kernel
theorem dX6_begin_54 : decode cX6_begin 54 = .ok (.aload_n 1, 1) := by decide +kernel
theorem dX6_begin_55 : decode cX6_begin 55 = .ok (.getfield 20, 3) := by decide +kernel
theorem dX6_begin_58 : decode cX6_begin 58 = .ok (.iastore, 1) := by decide +kernel
theorem dX6_begin_59 : decode cX6_begin 59 = .ok (.iconst 0, 1) := by decide +kernel
theorem dX6_begin_60 : decode cX6_begin 60 = .ok (.istore_n 2, 1) := by decide +kernel
theorem dX6_begin_61 : decode cX6_begin 61 = .ok (.iload_n 2, 1) := by decide +kernel
theorem dX6_begin_62 : decode cX6_begin 62 = .ok (.bipush 6, 2) := by decide +kernel
theorem dX6_begin_64 : decode cX6_begin 64 = .ok (.if_icmp .ge 60, 3) := by decide +kernel
theorem dX6_begin_67 : decode cX6_begin 67 = .ok (.iload_n 2, 1) := by decide +kernel
theorem dX6_begin_68 : decode cX6_begin 68 = .ok (.aload_n 1, 1) := by decide +kernel
theorem dX6_begin_69 : decode cX6_begin 69 = .ok (.getfield 20, 3) := by decide +kernel
theorem dX6_begin_72 : decode cX6_begin 72 = .ok (.if_icmp .ge 52, 3) := by decide +kernel
theorem dX6_begin_75 : decode cX6_begin 75 = .ok (.iload_n 2, 1) := by decide +kernel
theorem dX6_begin_76 : decode cX6_begin 76 = .ok (.bipush 9, 2) := by decide +kernel
theorem dX6_begin_78 : decode cX6_begin 78 = .ok (.imul, 1) := by decide +kernel
theorem dX6_begin_79 : decode cX6_begin 79 = .ok (.istore_n 3, 1) := by decide +kernel
theorem dX6_begin_80 : decode cX6_begin 80 = .ok (.aload_n 0, 1) := by decide +kernel
theorem dX6_begin_81 : decode cX6_begin 81 = .ok (.getfield 11, 3) := by decide +kernel
theorem dX6_begin_84 : decode cX6_begin 84 = .ok (.sipush 232, 3) := by decide +kernel
theorem dX6_begin_87 : decode cX6_begin 87 = .ok (.iload_n 2, 1) := by decide +kernel
theorem dX6_begin_88 : decode cX6_begin 88 = .ok (.iadd, 1) := by decide +kernel
theorem dX6_begin_89 : decode cX6_begin 89 = .ok (.iconst 1, 1) := by decide +kernel
theorem dX6_begin_90 : decode cX6_begin 90 = .ok (.iastore, 1) := by decide +kernel
theorem dX6_begin_91 : decode cX6_begin 91 = .ok (.aload_n 0, 1) := by decide +kernel
theorem dX6_begin_92 : decode cX6_begin 92 = .ok (.getfield 11, 3) := by decide +kernel
theorem dX6_begin_95 : decode cX6_begin 95 = .ok (.sipush 292, 3) := by decide +kernel
theorem dX6_begin_98 : decode cX6_begin 98 = .ok (.iload_n 3, 1) := by decide +kernel
theorem dX6_begin_99 : decode cX6_begin 99 = .ok (.iadd, 1) := by decide +kernel
theorem dX6_begin_100 : decode cX6_begin 100 = .ok (.aload_n 1, 1) := by decide +kernel
theorem dX6_begin_101 : decode cX6_begin 101 = .ok (.getfield 24, 3) := by decide +kernel
theorem dX6_begin_104 : decode cX6_begin 104 = .ok (.iload_n 2, 1) := by decide +kernel
theorem dX6_begin_105 : decode cX6_begin 105 = .ok (.iaload, 1) := by decide +kernel
theorem dX6_begin_106 : decode cX6_begin 106 = .ok (.iastore, 1) := by decide +kernel
theorem dX6_begin_107 : decode cX6_begin 107 = .ok (.aload_n 0, 1) := by decide +kernel
theorem dX6_begin_108 : decode cX6_begin 108 = .ok (.getfield 11, 3) := by decide +kernel
theorem dX6_begin_111 : decode cX6_begin 111 = .ok (.sipush 400, 3) := by decide +kernel
theorem dX6_begin_114 : decode cX6_begin 114 = .ok (.iload_n 3, 1) := by decide +kernel
theorem dX6_begin_115 : decode cX6_begin 115 = .ok (.iadd, 1) := by decide +kernel
theorem dX6_begin_116 : decode cX6_begin 116 = .ok (.iconst (-1), 1) := by decide +kernel
theorem dX6_begin_117 : decode cX6_begin 117 = .ok (.iastore, 1) := by decide +kernel
theorem dX6_begin_118 : decode cX6_begin 118 = .ok (.iinc 2 1, 3) := by decide +kernel
theorem dX6_begin_121 : decode cX6_begin 121 = .ok (.goto (-60), 3) := by decide +kernel
theorem dX6_begin_124 : decode cX6_begin 124 = .ok (.return_, 1) := by decide +kernel
def fW_begin_2 (Γ : nx_G) (x : Nat) (s1 : Int32 × nx_M) : Option ((Int32 × nx_M) ⊕ (nx_M)) :=
  if (iz 514) ≤ s1.1 then
    some (.inr s1.2)
  else
    (gR s1.2 x 6 0).bind fun q2 =>
    (aIw Γ s1.2 q2 s1.1 (iz 0)).bind fun D3 =>
    some (.inl ((s1.1 + iz 1), D3))
def fW_begin_24 (Γ : nx_G) (x : Nat) (a1 : Nat) (s5 : Int32 × nx_M) : Option ((Int32 × nx_M) ⊕ (nx_M)) :=
  if (iz 3) ≤ s5.1 then
    some (.inr s5.2)
  else
    (gR s5.2 x 6 0).bind fun q6 =>
    (gR s5.2 a1 4 0).bind fun q7 =>
    (aI Γ s5.2 q7 s5.1).bind fun x8 =>
    (aIw Γ s5.2 q6 ((iz 0) + s5.1) x8).bind fun D9 =>
    some (.inl ((s5.1 + iz 1), D9))
def fW_begin_61 (Γ : nx_G) (x : Nat) (a1 : Nat) (s14 : Int32 × nx_M) : Option ((Int32 × nx_M) ⊕ (nx_M)) :=
  if (iz 6) ≤ s14.1 then
    some (.inr s14.2)
  else
    (gI s14.2 a1 4 2).bind fun x15 =>
    if x15 ≤ s14.1 then
      some (.inr s14.2)
    else
      (gR s14.2 x 6 0).bind fun q16 =>
      (aIw Γ s14.2 q16 ((iz 232) + s14.1) (iz 1)).bind fun D17 =>
      (gR D17 x 6 0).bind fun q18 =>
      (gR D17 a1 4 1).bind fun q19 =>
      (aI Γ D17 q19 s14.1).bind fun x20 =>
      (aIw Γ D17 q18 ((iz 292) + (s14.1 * (iz 9))) x20).bind fun D21 =>
      (gR D21 x 6 0).bind fun q22 =>
      (aIw Γ D21 q22 ((iz 400) + (s14.1 * (iz 9))) (iz (-1))).bind fun D23 =>
      some (.inl ((s14.1 + iz 1), D23))
def fW_begin (u : Nat) (Γ : nx_G) (D : nx_M) (x : Nat) (a1 : Nat) : Option (nx_M) :=
  (nx_iter u (fW_begin_2 Γ x) ((iz 0), D)).bind fun e4 =>
  (nx_iter u (fW_begin_24 Γ x a1) ((iz 0), e4)).bind fun e10 =>
  (gR e10 x 6 0).bind fun q11 =>
  (gI e10 a1 4 2).bind fun x12 =>
  (aIw Γ e10 q11 (iz 3) x12).bind fun D13 =>
  (nx_iter u (fW_begin_61 Γ x a1) ((iz 0), D13)).bind fun e24 =>
  some e24
set_option maxRecDepth 4000 in
theorem jW_begin_2 {Γ : nx_G} {M0 : Nat → Option va_E} (x : Nat) (a1 : Nat)   (X : nx_X) (Z : nx_Z) (s1 : Int32 × nx_M) : nx_J Γ X (RX6, cX6_begin, 4, none, "begin", 1) Z (Sum.elim (fun s1 : Int32 × nx_M => .inl (2, [some (.ref x), some (.ref a1), some (.int s1.1), none], [], (ov M0 s1.2))) (fun e4 : nx_M => .inl (22, [some (.ref x), some (.ref a1), none, none], [], (ov M0 e4)))) (.inl (2, [some (.ref x), some (.ref a1), some (.int s1.1), none], [], (ov M0 s1.2))) (fW_begin_2 Γ x s1) := by
  unfold fW_begin_2
  refine nx_iload_n rfl dX6_begin_2 rfl ?_
  refine nx_sipush (by decide +kernel) dX6_begin_3 rfl ?_
  refine nx_icmp_ge (t := 22) dX6_begin_6 (by decide) rfl ?_ ?_
  · refine nx_weak (ls' := [some (.ref x), some (.ref a1), none, none]) (nx_wk_s (nx_wk_s (nx_wk_n (nx_wk_n nx_wk_e)))) ?_
    obtain ⟨_, _⟩ := s1
    exact nx_leaf rfl
  · refine nx_aload_n rfl dX6_begin_9 rfl ?_
    refine g_getr (Or.inl fl_6_11) dX6_begin_10 rfl (fun q2 => ?_)
    refine nx_iload_n rfl dX6_begin_13 rfl ?_
    refine nx_iconst dX6_begin_14 rfl ?_
    refine g_iast dX6_begin_15 rfl (fun D3 => ?_)
    refine nx_iinc [some (.ref x), some (.ref a1), some (.int (s1.1 + iz 1)), none] dX6_begin_16 rfl rfl (Nat.le_of_ble_eq_true rfl) rfl rfl ?_
    refine nx_goto (q := 2) dX6_begin_19 (by decide) ?_
    obtain ⟨_, _⟩ := s1
    exact nx_leaf rfl
set_option maxRecDepth 4000 in
theorem jW_begin_24 {Γ : nx_G} {M0 : Nat → Option va_E} (x : Nat) (a1 : Nat)   (X : nx_X) (Z : nx_Z) (s5 : Int32 × nx_M) : nx_J Γ X (RX6, cX6_begin, 4, none, "begin", 1) Z (Sum.elim (fun s5 : Int32 × nx_M => .inl (24, [some (.ref x), some (.ref a1), some (.int s5.1), none], [], (ov M0 s5.2))) (fun e10 : nx_M => .inl (49, [some (.ref x), some (.ref a1), none, none], [], (ov M0 e10)))) (.inl (24, [some (.ref x), some (.ref a1), some (.int s5.1), none], [], (ov M0 s5.2))) (fW_begin_24 Γ x a1 s5) := by
  unfold fW_begin_24
  refine nx_iload_n rfl dX6_begin_24 rfl ?_
  refine nx_iconst dX6_begin_25 rfl ?_
  refine nx_icmp_ge (t := 49) dX6_begin_26 (by decide) rfl ?_ ?_
  · refine nx_weak (ls' := [some (.ref x), some (.ref a1), none, none]) (nx_wk_s (nx_wk_s (nx_wk_n (nx_wk_n nx_wk_e)))) ?_
    obtain ⟨_, _⟩ := s5
    exact nx_leaf rfl
  · refine nx_aload_n rfl dX6_begin_29 rfl ?_
    refine g_getr (Or.inl fl_6_11) dX6_begin_30 rfl (fun q6 => ?_)
    refine nx_iconst dX6_begin_33 rfl ?_
    refine nx_iload_n rfl dX6_begin_34 rfl ?_
    refine nx_iadd dX6_begin_35 rfl ?_
    refine nx_aload_n rfl dX6_begin_36 rfl ?_
    refine g_getr (Or.inr fl_6_17) dX6_begin_37 rfl (fun q7 => ?_)
    refine nx_iload_n rfl dX6_begin_40 rfl ?_
    refine g_iald dX6_begin_41 rfl (fun x8 => ?_)
    refine g_iast dX6_begin_42 rfl (fun D9 => ?_)
    refine nx_iinc [some (.ref x), some (.ref a1), some (.int (s5.1 + iz 1)), none] dX6_begin_43 rfl rfl (Nat.le_of_ble_eq_true rfl) rfl rfl ?_
    refine nx_goto (q := 24) dX6_begin_46 (by decide) ?_
    obtain ⟨_, _⟩ := s5
    exact nx_leaf rfl
set_option maxRecDepth 4000 in
theorem jW_begin_61 {Γ : nx_G} {M0 : Nat → Option va_E} (x : Nat) (a1 : Nat)   (X : nx_X) (Z : nx_Z) (s14 : Int32 × nx_M) : nx_J Γ X (RX6, cX6_begin, 4, none, "begin", 1) Z (Sum.elim (fun s14 : Int32 × nx_M => .inl (61, [some (.ref x), some (.ref a1), some (.int s14.1), none], [], (ov M0 s14.2))) (fun e24 : nx_M => .inl (124, [some (.ref x), some (.ref a1), none, none], [], (ov M0 e24)))) (.inl (61, [some (.ref x), some (.ref a1), some (.int s14.1), none], [], (ov M0 s14.2))) (fW_begin_61 Γ x a1 s14) := by
  unfold fW_begin_61
  refine nx_iload_n rfl dX6_begin_61 rfl ?_
  refine nx_bipush (by decide +kernel) dX6_begin_62 rfl ?_
  refine nx_icmp_ge (t := 124) dX6_begin_64 (by decide) rfl ?_ ?_
  · refine nx_weak (ls' := [some (.ref x), some (.ref a1), none, none]) (nx_wk_s (nx_wk_s (nx_wk_n (nx_wk_n nx_wk_e)))) ?_
    obtain ⟨_, _⟩ := s14
    exact nx_leaf rfl
  · refine nx_iload_n rfl dX6_begin_67 rfl ?_
    refine nx_aload_n rfl dX6_begin_68 rfl ?_
    refine g_geti (Or.inr fl_6_20) dX6_begin_69 rfl (fun x15 => ?_)
    refine nx_icmp_ge (t := 124) dX6_begin_72 (by decide) rfl ?_ ?_
    · refine nx_weak (ls' := [some (.ref x), some (.ref a1), none, none]) (nx_wk_s (nx_wk_s (nx_wk_n (nx_wk_n nx_wk_e)))) ?_
      obtain ⟨_, _⟩ := s14
      exact nx_leaf rfl
    · refine nx_iload_n rfl dX6_begin_75 rfl ?_
      refine nx_bipush (by decide +kernel) dX6_begin_76 rfl ?_
      refine nx_imul dX6_begin_78 rfl ?_
      refine nx_istore_n [some (.ref x), some (.ref a1), some (.int s14.1), some (.int (s14.1 * (iz 9)))] dX6_begin_79 rfl (Nat.le_of_ble_eq_true rfl) rfl rfl ?_
      refine nx_aload_n rfl dX6_begin_80 rfl ?_
      refine g_getr (Or.inl fl_6_11) dX6_begin_81 rfl (fun q16 => ?_)
      refine nx_sipush (by decide +kernel) dX6_begin_84 rfl ?_
      refine nx_iload_n rfl dX6_begin_87 rfl ?_
      refine nx_iadd dX6_begin_88 rfl ?_
      refine nx_iconst dX6_begin_89 rfl ?_
      refine g_iast dX6_begin_90 rfl (fun D17 => ?_)
      refine nx_aload_n rfl dX6_begin_91 rfl ?_
      refine g_getr (Or.inl fl_6_11) dX6_begin_92 rfl (fun q18 => ?_)
      refine nx_sipush (by decide +kernel) dX6_begin_95 rfl ?_
      refine nx_iload_n rfl dX6_begin_98 rfl ?_
      refine nx_iadd dX6_begin_99 rfl ?_
      refine nx_aload_n rfl dX6_begin_100 rfl ?_
      refine g_getr (Or.inr fl_6_24) dX6_begin_101 rfl (fun q19 => ?_)
      refine nx_iload_n rfl dX6_begin_104 rfl ?_
      refine g_iald dX6_begin_105 rfl (fun x20 => ?_)
      refine g_iast dX6_begin_106 rfl (fun D21 => ?_)
      refine nx_aload_n rfl dX6_begin_107 rfl ?_
      refine g_getr (Or.inl fl_6_11) dX6_begin_108 rfl (fun q22 => ?_)
      refine nx_sipush (by decide +kernel) dX6_begin_111 rfl ?_
      refine nx_iload_n rfl dX6_begin_114 rfl ?_
      refine nx_iadd dX6_begin_115 rfl ?_
      refine nx_iconst dX6_begin_116 rfl ?_
      refine g_iast dX6_begin_117 rfl (fun D23 => ?_)
      refine nx_iinc [some (.ref x), some (.ref a1), some (.int (s14.1 + iz 1)), some (.int (s14.1 * (iz 9)))] dX6_begin_118 rfl rfl (Nat.le_of_ble_eq_true rfl) rfl rfl ?_
      refine nx_goto (q := 61) dX6_begin_121 (by decide) ?_
      refine nx_weak (ls' := [some (.ref x), some (.ref a1), some (.int (s14.1 + iz 1)), none]) (nx_wk_s (nx_wk_s (nx_wk_s (nx_wk_n nx_wk_e)))) ?_
      obtain ⟨_, _⟩ := s14
      exact nx_leaf rfl
set_option maxRecDepth 4000 in
theorem jW_begin {Γ : nx_G} {M0 : Nat → Option va_E} (u : Nat) (D : nx_M) (x : Nat) (a1 : Nat)   (X : nx_X) (Z : nx_Z) : nx_J Γ X (RX6, cX6_begin, 4, none, "begin", 1) Z (fun r0 : nx_M => .inr (none, (ov M0 r0))) (.inl (0, [some (.ref x), some (.ref a1), none, none], [], (ov M0 D))) (fW_begin u Γ D x a1) := by
  unfold fW_begin
  refine nx_iconst dX6_begin_0 rfl ?_
  refine nx_istore_n [some (.ref x), some (.ref a1), some (.int (iz 0)), none] dX6_begin_1 rfl (Nat.le_of_ble_eq_true rfl) rfl rfl ?_
  refine nx_seq (C1 := fun e4 : nx_M => .inl (22, [some (.ref x), some (.ref a1), none, none], [], (ov M0 e4))) (nx_loop (C1 := fun s1 : Int32 × nx_M => .inl (2, [some (.ref x), some (.ref a1), some (.int s1.1), none], [], (ov M0 s1.2))) (fun s1 => jW_begin_2  x a1 X Z s1) ((iz 0), D)) (fun e4 => ?_)
  refine nx_iconst dX6_begin_22 rfl ?_
  refine nx_istore_n [some (.ref x), some (.ref a1), some (.int (iz 0)), none] dX6_begin_23 rfl (Nat.le_of_ble_eq_true rfl) rfl rfl ?_
  refine nx_seq (C1 := fun e10 : nx_M => .inl (49, [some (.ref x), some (.ref a1), none, none], [], (ov M0 e10))) (nx_loop (C1 := fun s5 : Int32 × nx_M => .inl (24, [some (.ref x), some (.ref a1), some (.int s5.1), none], [], (ov M0 s5.2))) (fun s5 => jW_begin_24  x a1 X Z s5) ((iz 0), e4)) (fun e10 => ?_)
  refine nx_aload_n rfl dX6_begin_49 rfl ?_
  refine g_getr (Or.inl fl_6_11) dX6_begin_50 rfl (fun q11 => ?_)
  refine nx_iconst dX6_begin_53 rfl ?_
  refine nx_aload_n rfl dX6_begin_54 rfl ?_
  refine g_geti (Or.inr fl_6_20) dX6_begin_55 rfl (fun x12 => ?_)
  refine g_iast dX6_begin_58 rfl (fun D13 => ?_)
  refine nx_iconst dX6_begin_59 rfl ?_
  refine nx_istore_n [some (.ref x), some (.ref a1), some (.int (iz 0)), none] dX6_begin_60 rfl (Nat.le_of_ble_eq_true rfl) rfl rfl ?_
  refine nx_seq (C1 := fun e24 : nx_M => .inl (124, [some (.ref x), some (.ref a1), none, none], [], (ov M0 e24))) (nx_loop (C1 := fun s14 : Int32 × nx_M => .inl (61, [some (.ref x), some (.ref a1), some (.int s14.1), none], [], (ov M0 s14.2))) (fun s14 => jW_begin_61  x a1 X Z s14) ((iz 0), D13)) (fun e24 => ?_)
  exact nx_vret dX6_begin_124 rfl rfl
theorem cW_begin (l : Launch) {Γ : nx_G} {M0 : Nat → Option va_E} {u : Nat} {D : nx_M} {x : Nat} {a1 : Nat} {r : nx_M}  (h : fW_begin u Γ D x a1 = some r) : nx_Ct l Γ 1 yX6_begin cX6_begin 4 none [.ref x, .ref a1] (ov M0 D) (none, (ov M0 r)) :=
  nx_ct (out := fun r0 : nx_M => (none, (ov M0 r0))) [some (.ref x), some (.ref a1), none, none] pn_RX6 h (Nat.le_of_ble_eq_true rfl) rfl (fun X Z _ => jW_begin  u D x a1 X Z)
theorem dX7_takeStore_0 : decode cX7_takeStore 0 = .ok (.aload_n 0, 1) := by decide +kernel
theorem dX7_takeStore_1 : decode cX7_takeStore 1 = .ok (.getfield 19, 3) := by decide +kernel
theorem dX7_takeStore_4 : decode cX7_takeStore 4 = .ok (.aload_n 0, 1) := by decide +kernel
theorem dX7_takeStore_5 : decode cX7_takeStore 5 = .ok (.getfield 10, 3) := by decide +kernel
theorem dX7_takeStore_8 : decode cX7_takeStore 8 = .ok (.invokevirtual 81, 3) := by decide +kernel
theorem dX7_takeStore_11 : decode cX7_takeStore 11 = .ok (.iconst (-1), 1) := by decide +kernel
theorem dX7_takeStore_12 : decode cX7_takeStore 12 = .ok (.if_icmp .eq 5, 3) := by decide +kernel
theorem dX7_takeStore_15 : decode cX7_takeStore 15 = .ok (.iconst (-1), 1) := by decide +kernel
theorem dX7_takeStore_16 : decode cX7_takeStore 16 = .ok (.ireturn, 1) := by decide +kernel
theorem dX7_takeStore_17 : decode cX7_takeStore 17 = .ok (.aload_n 0, 1) := by decide +kernel
theorem dX7_takeStore_18 : decode cX7_takeStore 18 = .ok (.getfield 10, 3) := by decide +kernel
theorem dX7_takeStore_21 : decode cX7_takeStore 21 = .ok (.iconst 0, 1) := by decide +kernel
theorem dX7_takeStore_22 : decode cX7_takeStore 22 = .ok (.putfield 73, 3) := by decide +kernel
theorem dX7_takeStore_25 : decode cX7_takeStore 25 = .ok (.aload_n 0, 1) := by decide +kernel
theorem dX7_takeStore_26 : decode cX7_takeStore 26 = .ok (.getfield 37, 3) := by decide +kernel
theorem dX7_takeStore_29 : decode cX7_takeStore 29 = .ok (.aload_n 0, 1) := by decide +kernel
theorem dX7_takeStore_30 : decode cX7_takeStore 30 = .ok (.getfield 19, 3) := by decide +kernel
theorem dX7_takeStore_33 : decode cX7_takeStore 33 = .ok (.invokevirtual 93, 3) := by decide +kernel
theorem dX7_takeStore_36 : decode cX7_takeStore 36 = .ok (.aload_n 0, 1) := by decide +kernel
theorem dX7_takeStore_37 : decode cX7_takeStore 37 = .ok (.getfield 44, 3) := by decide +kernel
theorem dX7_takeStore_40 : decode cX7_takeStore 40 = .ok (.invokevirtual 97, 3) := by decide +kernel
theorem dX7_takeStore_43 : decode cX7_takeStore 43 = .ok (.aload_n 0, 1) := by decide +kernel
theorem dX7_takeStore_44 : decode cX7_takeStore 44 = .ok (.iconst 0, 1) := by decide +kernel
theorem dX7_takeStore_45 : decode cX7_takeStore 45 = .ok (.putfield 100, 3) := by decide +kernel
theorem dX7_takeStore_48 : decode cX7_takeStore 48 = .ok (.aload_n 0, 1) := by decide +kernel
theorem dX7_takeStore_49 : decode cX7_takeStore 49 = .ok (.getfield 37, 3) := by decide +kernel
theorem dX7_takeStore_52 : decode cX7_takeStore 52 = .ok (.invokevirtual 104, 3) := by decide +kernel
theorem dX7_takeStore_55 : decode cX7_takeStore 55 = .ok (.ireturn, 1) := by decide +kernel
def fC_takeStore (u : Nat) (Γ : nx_G) (D : nx_M) (x : Nat) : Option (Int32 × nx_M) :=
  (gR D x 7 1).bind fun q1 =>
  (gR D x 7 0).bind fun q2 =>
  (gR D x 7 3).bind fun q3 =>
  (eqg q1 (q2 + 2)).bind fun _ =>
  (tWr2 Γ D q2 q3 (fun g => fT_faultOf u g)).bind fun p4 =>
  if p4.1 = (iz (-1)) then
    (gR p4.2 x 7 0).bind fun q5 =>
    (gPut p4.2 q5 5 1 (.int (iz 0))).bind fun D6 =>
    (gR D6 x 7 5).bind fun q7 =>
    (gR D6 x 7 1).bind fun q8 =>
    (gAt D6 q7 6 (fW_begin u Γ D6 q7 q8)).bind fun D9 =>
    (gR D9 x 7 6).bind fun q10 =>
    (gAt D9 q10 2 (fQ_forget u Γ D9 q10)).bind fun D11 =>
    (gPut D11 x 7 8 (.int (iz 0))).bind fun D12 =>
    (gR D12 x 7 5).bind fun q13 =>
    (wRd Γ D12 q13 (fun f => fW_keys u f)).bind fun x14 =>
    some (x14, D12)
  else
    some ((iz (-1)), p4.2)
set_option maxRecDepth 4000 in
theorem jC_takeStore {Γ : nx_G} {M0 : Nat → Option va_E} (u : Nat) (D : nx_M) (x : Nat)   (X : nx_X) (Z : nx_Z) : nx_J Γ X (RX7, cX7_takeStore, 1, (some .int), "takeStore", 7) Z (fun r0 : Int32 × nx_M => .inr (some (.int r0.1), (ov M0 r0.2))) (.inl (0, [some (.ref x)], [], (ov M0 D))) (fC_takeStore u Γ D x) := by
  unfold fC_takeStore
  refine nx_aload_n rfl dX7_takeStore_0 rfl ?_
  refine g_getr (Or.inl fl_7_19) dX7_takeStore_1 rfl (fun q1 => ?_)
  refine nx_aload_n rfl dX7_takeStore_4 rfl ?_
  refine g_getr (Or.inl fl_7_10) dX7_takeStore_5 rfl (fun q2 => ?_)
  refine nx_guard (fun q3 _ => ?_)
  refine nx_guard (fun _ hz => ?_)
  obtain rfl := eqg_spec hz
  refine g_callTw (t := q2) (p := q3) [.ref q2] (fun r => .int r) cw_7_81 cv_X4_faultOf (fun M1 g h => ⟨_, tW_s⟩) (fun M1 g r h e => cT_faultOf X.2.1 h e) rfl rfl (Nat.le_of_ble_eq_true rfl) (Nat.le_of_ble_eq_true rfl) dX7_takeStore_8 rfl (fun p4 => ?_)
  refine nx_iconst dX7_takeStore_11 rfl ?_
  refine nx_icmp_eq (t := 17) dX7_takeStore_12 (by decide) rfl ?_ ?_
  · refine nx_aload_n rfl dX7_takeStore_17 rfl ?_
    refine g_getr (Or.inl fl_7_10) dX7_takeStore_18 rfl (fun q5 => ?_)
    refine nx_iconst dX7_takeStore_21 rfl ?_
    refine g_put (Or.inr fl_7_73) ft_5_1 rfl rfl dX7_takeStore_22 rfl (fun D6 => ?_)
    refine nx_aload_n rfl dX7_takeStore_25 rfl ?_
    refine g_getr (Or.inl fl_7_37) dX7_takeStore_26 rfl (fun q7 => ?_)
    refine nx_aload_n rfl dX7_takeStore_29 rfl ?_
    refine g_getr (Or.inl fl_7_19) dX7_takeStore_30 rfl (fun q8 => ?_)
    refine g_callGv [.ref q8] (fun r => r) cw_7_93 cv_X6_begin (fun r e => cW_begin X.2.1 e) rfl rfl (Nat.le_of_ble_eq_true rfl) (Nat.le_of_ble_eq_true rfl) dX7_takeStore_33 rfl (fun D9 => ?_)
    refine nx_aload_n rfl dX7_takeStore_36 rfl ?_
    refine g_getr (Or.inl fl_7_44) dX7_takeStore_37 rfl (fun q10 => ?_)
    refine g_callGv [] (fun r => r) cw_7_97 cv_X2_forget (fun r e => cQ_forget X.2.1 e) rfl rfl (Nat.le_of_ble_eq_true rfl) (Nat.le_of_ble_eq_true rfl) dX7_takeStore_40 rfl (fun D11 => ?_)
    refine nx_aload_n rfl dX7_takeStore_43 rfl ?_
    refine nx_iconst dX7_takeStore_44 rfl ?_
    refine g_put (Or.inl fl_7_100) ft_7_8 (by decide +kernel) (by decide +kernel) dX7_takeStore_45 rfl (fun D12 => ?_)
    refine nx_aload_n rfl dX7_takeStore_48 rfl ?_
    refine g_getr (Or.inl fl_7_37) dX7_takeStore_49 rfl (fun q13 => ?_)
    refine g_callWr [] (fun r => .int r) cw_7_104 cv_X6_keys (fun M1 c f r hw hc e => cW_keys X.2.1 hw hc e) rfl rfl (Nat.le_of_ble_eq_true rfl) (Nat.le_of_ble_eq_true rfl) dX7_takeStore_52 rfl (fun x14 => ?_)
    exact nx_iret dX7_takeStore_55 rfl rfl
  · refine nx_iconst dX7_takeStore_15 rfl ?_
    exact nx_iret dX7_takeStore_16 rfl rfl
theorem cC_takeStore (l : Launch) {Γ : nx_G} {M0 : Nat → Option va_E} {u : Nat} {D : nx_M} {x : Nat} {r : Int32 × nx_M}  (h : fC_takeStore u Γ D x = some r) : nx_Ct l Γ 7 yX7_takeStore cX7_takeStore 1 (some .int) [.ref x] (ov M0 D) (some (.int r.1), (ov M0 r.2)) :=
  nx_ct (out := fun r0 : Int32 × nx_M => (some (.int r0.1), (ov M0 r0.2))) [some (.ref x)] pn_RX7 h (Nat.le_of_ble_eq_true rfl) rfl (fun X Z _ => jC_takeStore  u D x X Z)
theorem dX7_takeScript_0 : decode cX7_takeScript 0 = .ok (.aload_n 0, 1) := by decide +kernel
theorem dX7_takeScript_1 : decode cX7_takeScript 1 = .ok (.getfield 107, 3) := by decide +kernel
theorem dX7_takeScript_4 : decode cX7_takeScript 4 = .ok (.iconst 4, 1) := by decide +kernel
theorem dX7_takeScript_5 : decode cX7_takeScript 5 = .ok (.if_icmp .ge 18, 3) := by decide +kernel
theorem dX7_takeScript_8 : decode cX7_takeScript 8 = .ok (.aload_n 0, 1) := by decide +kernel
theorem dX7_takeScript_9 : decode cX7_takeScript 9 = .ok (.getfield 30, 3) := by decide +kernel
theorem dX7_takeScript_12 : decode cX7_takeScript 12 = .ok (.aload_n 0, 1) := by decide +kernel
theorem dX7_takeScript_13 : decode cX7_takeScript 13 = .ok (.getfield 10, 3) := by decide +kernel
theorem dX7_takeScript_16 : decode cX7_takeScript 16 = .ok (.invokevirtual 85, 3) := by decide +kernel
theorem dX7_takeScript_19 : decode cX7_takeScript 19 = .ok (.iconst (-1), 1) := by decide +kernel
theorem dX7_takeScript_20 : decode cX7_takeScript 20 = .ok (.if_icmp .eq 5, 3) := by decide +kernel
theorem dX7_takeScript_23 : decode cX7_takeScript 23 = .ok (.iconst (-1), 1) := by decide +kernel
theorem dX7_takeScript_24 : decode cX7_takeScript 24 = .ok (.ireturn, 1) := by decide +kernel
theorem dX7_takeScript_25 : decode cX7_takeScript 25 = .ok (.aload_n 0, 1) := by decide +kernel
theorem dX7_takeScript_26 : decode cX7_takeScript 26 = .ok (.getfield 10, 3) := by decide +kernel
theorem dX7_takeScript_29 : decode cX7_takeScript 29 = .ok (.iconst 0, 1) := by decide +kernel
theorem dX7_takeScript_30 : decode cX7_takeScript 30 = .ok (.putfield 73, 3) := by decide +kernel
theorem dX7_takeScript_33 : decode cX7_takeScript 33 = .ok (.aload_n 0, 1) := by decide +kernel
theorem dX7_takeScript_34 : decode cX7_takeScript 34 = .ok (.getfield 25, 3) := by decide +kernel
theorem dX7_takeScript_37 : decode cX7_takeScript 37 = .ok (.aload_n 0, 1) := by decide +kernel
theorem dX7_takeScript_38 : decode cX7_takeScript 38 = .ok (.getfield 107, 3) := by decide +kernel
theorem dX7_takeScript_41 : decode cX7_takeScript 41 = .ok (.aload_n 0, 1) := by decide +kernel
theorem dX7_takeScript_42 : decode cX7_takeScript 42 = .ok (.getfield 30, 3) := by decide +kernel
theorem dX7_takeScript_45 : decode cX7_takeScript 45 = .ok (.aastore, 1) := by decide +kernel
theorem dX7_takeScript_46 : decode cX7_takeScript 46 = .ok (.aload_n 0, 1) := by decide +kernel
theorem dX7_takeScript_47 : decode cX7_takeScript 47 = .ok (.new 23, 3) := by decide +kernel
theorem dX7_takeScript_50 : decode cX7_takeScript 50 = .ok (.dup, 1) := by decide +kernel
theorem dX7_takeScript_51 : decode cX7_takeScript 51 = .ok (.invokespecial 29, 3) := by decide +kernel
theorem dX7_takeScript_54 : decode cX7_takeScript 54 = .ok (.putfield 30, 3) := by decide +kernel
theorem dX7_takeScript_57 : decode cX7_takeScript 57 = .ok (.aload_n 0, 1) := by decide +kernel
theorem dX7_takeScript_58 : decode cX7_takeScript 58 = .ok (.dup, 1) := by decide +kernel
theorem dX7_takeScript_59 : decode cX7_takeScript 59 = .ok (.getfield 107, 3) := by decide +kernel
theorem dX7_takeScript_62 : decode cX7_takeScript 62 = .ok (.iconst 1, 1) := by decide +kernel
theorem dX7_takeScript_63 : decode cX7_takeScript 63 = .ok (.iadd, 1) := by decide +kernel
theorem dX7_takeScript_64 : decode cX7_takeScript 64 = .ok (.putfield 107, 3) := by decide +kernel
theorem dX7_takeScript_67 : decode cX7_takeScript 67 = .ok (.aload_n 0, 1) := by decide +kernel
theorem dX7_takeScript_68 : decode cX7_takeScript 68 = .ok (.getfield 107, 3) := by decide +kernel
theorem dX7_takeScript_71 : decode cX7_takeScript 71 = .ok (.iconst 1, 1) := by decide +kernel
theorem dX7_takeScript_72 : decode cX7_takeScript 72 = .ok (.isub, 1) := by decide +kernel
theorem dX7_takeScript_73 : decode cX7_takeScript 73 = .ok (.ireturn, 1) := by decide +kernel
def fC_takeScript (u : Nat) (Γ : nx_G) (D : nx_M) (x : Nat) : Option (Int32 × nx_M) :=
  (gI D x 7 4).bind fun x1 =>
  if (iz 4) ≤ x1 then
    some ((iz (-1)), D)
  else
    (gR D x 7 3).bind fun q2 =>
    (gR D x 7 0).bind fun q3 =>
    (tWr2 Γ D q3 q2 (fun g => fP_faultOf u g)).bind fun p4 =>
    if p4.1 = (iz (-1)) then
      (gR p4.2 x 7 0).bind fun q5 =>
      (gPut p4.2 q5 5 1 (.int (iz 0))).bind fun D6 =>
      (gR D6 x 7 2).bind fun q7 =>
      (gI D6 x 7 4).bind fun x8 =>
      (gR D6 x 7 3).bind fun q9 =>
      (qAw Γ 3 3 D6 q7 x8 q9).bind fun D10 =>
      (some (nx_al D10 (.inr (3, [.null, .int 0])) 2)).bind fun D11 =>
      (fP_init u Γ D11 D10.2.1).bind fun D12 =>
      (gPut D12 x 7 3 (.ref D10.2.1)).bind fun D13 =>
      (gI D13 x 7 4).bind fun x14 =>
      (gPut D13 x 7 4 (.int (x14 + (iz 1)))).bind fun D15 =>
      (gI D15 x 7 4).bind fun x16 =>
      some ((x16 - (iz 1)), D15)
    else
      some ((iz (-1)), p4.2)
set_option maxRecDepth 4000 in
theorem jC_takeScript {Γ : nx_G} {M0 : Nat → Option va_E} (u : Nat) (D : nx_M) (x : Nat)   (X : nx_X) (Z : nx_Z) : nx_J Γ X (RX7, cX7_takeScript, 1, (some .int), "takeScript", 7) Z (fun r0 : Int32 × nx_M => .inr (some (.int r0.1), (ov M0 r0.2))) (.inl (0, [some (.ref x)], [], (ov M0 D))) (fC_takeScript u Γ D x) := by
  unfold fC_takeScript
  refine nx_aload_n rfl dX7_takeScript_0 rfl ?_
  refine g_geti (Or.inl fl_7_107) dX7_takeScript_1 rfl (fun x1 => ?_)
  refine nx_iconst dX7_takeScript_4 rfl ?_
  refine nx_icmp_ge (t := 23) dX7_takeScript_5 (by decide) rfl ?_ ?_
  · refine nx_iconst dX7_takeScript_23 rfl ?_
    exact nx_iret dX7_takeScript_24 rfl rfl
  · refine nx_aload_n rfl dX7_takeScript_8 rfl ?_
    refine g_getr (Or.inl fl_7_30) dX7_takeScript_9 rfl (fun q2 => ?_)
    refine nx_aload_n rfl dX7_takeScript_12 rfl ?_
    refine g_getr (Or.inl fl_7_10) dX7_takeScript_13 rfl (fun q3 => ?_)
    refine g_callTw (t := q3) (p := q2) [.ref q3] (fun r => .int r) cw_7_85 cv_X3_faultOf (fun M1 g h => ⟨_, tW_p h⟩) (fun M1 g r h e => cP_faultOf X.2.1 h e) rfl rfl (Nat.le_of_ble_eq_true rfl) (Nat.le_of_ble_eq_true rfl) dX7_takeScript_16 rfl (fun p4 => ?_)
    refine nx_iconst dX7_takeScript_19 rfl ?_
    refine nx_icmp_eq (t := 25) dX7_takeScript_20 (by decide) rfl ?_ ?_
    · refine nx_aload_n rfl dX7_takeScript_25 rfl ?_
      refine g_getr (Or.inl fl_7_10) dX7_takeScript_26 rfl (fun q5 => ?_)
      refine nx_iconst dX7_takeScript_29 rfl ?_
      refine g_put (Or.inr fl_7_73) ft_5_1 rfl rfl dX7_takeScript_30 rfl (fun D6 => ?_)
      refine nx_aload_n rfl dX7_takeScript_33 rfl ?_
      refine g_getr (Or.inl fl_7_25) dX7_takeScript_34 rfl (fun q7 => ?_)
      refine nx_aload_n rfl dX7_takeScript_37 rfl ?_
      refine g_geti (Or.inl fl_7_107) dX7_takeScript_38 rfl (fun x8 => ?_)
      refine nx_aload_n rfl dX7_takeScript_41 rfl ?_
      refine g_getr (Or.inl fl_7_30) dX7_takeScript_42 rfl (fun q9 => ?_)
      refine g_aast (t := 3) (ci := 3) rfl rfl dX7_takeScript_45 rfl (fun D10 => ?_)
      refine nx_aload_n rfl dX7_takeScript_46 rfl ?_
      refine g_new cn_7_23 dX7_takeScript_47 rfl (fun D11 _ => ?_)
      refine nx_dup rfl dX7_takeScript_50 rfl ?_
      refine nx_callI (mem := fun r => ov M0 r) [] cw_7_29 wd_268 rfl (fun r e => cP_init X.2.1 e) rfl rfl (Nat.le_of_ble_eq_true rfl) (Nat.le_of_ble_eq_true rfl) dX7_takeScript_51 rfl (fun D12 => ?_)
      refine g_put (Or.inl fl_7_30) ft_7_3 rfl rfl dX7_takeScript_54 rfl (fun D13 => ?_)
      refine nx_aload_n rfl dX7_takeScript_57 rfl ?_
      refine nx_dup rfl dX7_takeScript_58 rfl ?_
      refine g_geti (Or.inl fl_7_107) dX7_takeScript_59 rfl (fun x14 => ?_)
      refine nx_iconst dX7_takeScript_62 rfl ?_
      refine nx_iadd dX7_takeScript_63 rfl ?_
      refine g_put (Or.inl fl_7_107) ft_7_4 rfl rfl dX7_takeScript_64 rfl (fun D15 => ?_)
      refine nx_aload_n rfl dX7_takeScript_67 rfl ?_
      refine g_geti (Or.inl fl_7_107) dX7_takeScript_68 rfl (fun x16 => ?_)
      refine nx_iconst dX7_takeScript_71 rfl ?_
      refine nx_isub dX7_takeScript_72 rfl ?_
      exact nx_iret dX7_takeScript_73 rfl rfl
    · refine nx_iconst dX7_takeScript_23 rfl ?_
      exact nx_iret dX7_takeScript_24 rfl rfl
theorem cC_takeScript (l : Launch) {Γ : nx_G} {M0 : Nat → Option va_E} {u : Nat} {D : nx_M} {x : Nat} {r : Int32 × nx_M}  (h : fC_takeScript u Γ D x = some r) : nx_Ct l Γ 7 yX7_takeScript cX7_takeScript 1 (some .int) [.ref x] (ov M0 D) (some (.int r.1), (ov M0 r.2)) :=
  nx_ct (out := fun r0 : Int32 × nx_M => (some (.int r0.1), (ov M0 r0.2))) [some (.ref x)] pn_RX7 h (Nat.le_of_ble_eq_true rfl) rfl (fun X Z _ => jC_takeScript  u D x X Z)
theorem dX7_text_0 : decode cX7_text 0 = .ok (.iload_n 1, 1) := by decide +kernel
theorem dX7_text_1 : decode cX7_text 1 = .ok (.ifCond .ne 8, 3) := by decide +kernel
theorem dX7_text_4 : decode cX7_text 4 = .ok (.aload_n 0, 1) := by decide +kernel
theorem dX7_text_5 : decode cX7_text 5 = .ok (.invokevirtual 86, 3) := by decide +kernel
theorem dX7_text_8 : decode cX7_text 8 = .ok (.ireturn, 1) := by decide +kernel
theorem dX7_text_9 : decode cX7_text 9 = .ok (.iload_n 1, 1) := by decide +kernel
theorem dX7_text_10 : decode cX7_text 10 = .ok (.iconst 1, 1) := by decide +kernel
theorem dX7_text_11 : decode cX7_text 11 = .ok (.if_icmp .ne 10, 3) := by decide +kernel
theorem dX7_text_14 : decode cX7_text 14 = .ok (.aload_n 0, 1) := by decide +kernel
theorem dX7_text_15 : decode cX7_text 15 = .ok (.invokevirtual 90, 3) := by decide +kernel
theorem dX7_text_18 : decode cX7_text 18 = .ok (.goto 4, 3) := by decide +kernel
theorem dX7_text_21 : decode cX7_text 21 = .ok (.iconst (-1), 1) := by decide +kernel
theorem dX7_text_22 : decode cX7_text 22 = .ok (.ireturn, 1) := by decide +kernel
def fC_text (u : Nat) (Γ : nx_G) (D : nx_M) (x : Nat) (a1 : Int32) : Option (Int32 × nx_M) :=
  if a1 = iz 0 then
    (gAt D x 7 (fC_takeStore u Γ D x)).bind fun p2 =>
    some (p2.1, p2.2)
  else
    if a1 = (iz 1) then
      (gAt D x 7 (fC_takeScript u Γ D x)).bind fun p1 =>
      some (p1.1, p1.2)
    else
      some ((iz (-1)), D)
set_option maxRecDepth 4000 in
theorem jC_text {Γ : nx_G} {M0 : Nat → Option va_E} (u : Nat) (D : nx_M) (x : Nat) (a1 : Int32)   (X : nx_X) (Z : nx_Z) : nx_J Γ X (RX7, cX7_text, 2, (some .int), "text", 8) Z (fun r0 : Int32 × nx_M => .inr (some (.int r0.1), (ov M0 r0.2))) (.inl (0, [some (.ref x), some (.int a1)], [], (ov M0 D))) (fC_text u Γ D x a1) := by
  unfold fC_text
  refine nx_iload_n rfl dX7_text_0 rfl ?_
  refine nx_if_ne (t := 9) dX7_text_1 (by decide) rfl ?_ ?_
  · refine nx_iload_n rfl dX7_text_9 rfl ?_
    refine nx_iconst dX7_text_10 rfl ?_
    refine nx_icmp_ne (t := 21) dX7_text_11 (by decide) rfl ?_ ?_
    · refine nx_iconst dX7_text_21 rfl ?_
      exact nx_iret dX7_text_22 rfl rfl
    · refine nx_aload_n rfl dX7_text_14 rfl ?_
      refine g_callGr [] (fun r => .int r.1) (fun r => r.2) cw_7_90 cv_X7_takeScript (fun r e => cC_takeScript X.2.1 e) rfl rfl (Nat.le_of_ble_eq_true rfl) (Nat.le_of_ble_eq_true rfl) dX7_text_15 rfl (fun p1 => ?_)
      refine nx_goto (q := 22) dX7_text_18 (by decide) ?_
      exact nx_iret dX7_text_22 rfl rfl
  · refine nx_aload_n rfl dX7_text_4 rfl ?_
    refine g_callGr [] (fun r => .int r.1) (fun r => r.2) cw_7_86 cv_X7_takeStore (fun r e => cC_takeStore X.2.1 e) rfl rfl (Nat.le_of_ble_eq_true rfl) (Nat.le_of_ble_eq_true rfl) dX7_text_5 rfl (fun p2 => ?_)
    exact nx_iret dX7_text_8 rfl rfl
theorem cC_text (l : Launch) {Γ : nx_G} {M0 : Nat → Option va_E} {u : Nat} {D : nx_M} {x : Nat} {a1 : Int32} {r : Int32 × nx_M}  (h : fC_text u Γ D x a1 = some r) : nx_Ct l Γ 8 yX7_text cX7_text 2 (some .int) [.ref x, .int a1] (ov M0 D) (some (.int r.1), (ov M0 r.2)) :=
  nx_ct (out := fun r0 : Int32 × nx_M => (some (.int r0.1), (ov M0 r0.2))) [some (.ref x), some (.int a1)] pn_RX7 h (Nat.le_of_ble_eq_true rfl) rfl (fun X Z _ => jC_text  u D x a1 X Z)
theorem dX7_rule_0 : decode cX7_rule 0 = .ok (.aload_n 0, 1) := by decide +kernel
theorem dX7_rule_1 : decode cX7_rule 1 = .ok (.getfield 37, 3) := by decide +kernel
theorem dX7_rule_4 : decode cX7_rule 4 = .ok (.invokevirtual 110, 3) := by decide +kernel
theorem dX7_rule_7 : decode cX7_rule 7 = .ok (.ifCond .eq 22, 3) := by decide +kernel
theorem dX7_rule_10 : decode cX7_rule 10 = .ok (.iload_n 1, 1) := by decide +kernel
theorem dX7_rule_11 : decode cX7_rule 11 = .ok (.iconst 3, 1) := by decide +kernel
theorem dX7_rule_12 : decode cX7_rule 12 = .ok (.invokestatic 114, 3) := by decide +kernel
theorem dX7_rule_15 : decode cX7_rule 15 = .ok (.ifCond .eq 14, 3) := by decide +kernel
theorem dX7_rule_18 : decode cX7_rule 18 = .ok (.aload_n 0, 1) := by decide +kernel
theorem dX7_rule_19 : decode cX7_rule 19 = .ok (.getfield 37, 3) := by decide +kernel
theorem dX7_rule_22 : decode cX7_rule 22 = .ok (.iload_n 1, 1) := by decide +kernel
theorem dX7_rule_23 : decode cX7_rule 23 = .ok (.invokevirtual 118, 3) := by decide +kernel
theorem dX7_rule_26 : decode cX7_rule 26 = .ok (.goto 4, 3) := by decide +kernel
theorem dX7_rule_29 : decode cX7_rule 29 = .ok (.iconst (-1), 1) := by decide +kernel
theorem dX7_rule_30 : decode cX7_rule 30 = .ok (.ireturn, 1) := by decide +kernel
def fC_rule (u : Nat) (Γ : nx_G) (D : nx_M) (x : Nat) (a1 : Int32) : Option (Int32) :=
  (gR D x 7 5).bind fun q1 =>
  (wRd Γ D q1 (fun f => fW_hasStore u f)).bind fun b2 =>
  if b2 = true then
    (fL_within u a1 (iz 3)).bind fun b3 =>
    if b3 = true then
      (gR D x 7 5).bind fun q4 =>
      (wRd Γ D q4 (fun f => fW_ruleOf u f a1)).bind fun x5 =>
      some x5
    else
      some (iz (-1))
  else
    some (iz (-1))
set_option maxRecDepth 4000 in
theorem jC_rule {Γ : nx_G} {M0 : Nat → Option va_E} (u : Nat) (D : nx_M) (x : Nat) (a1 : Int32)   (X : nx_X) (Z : nx_Z) : nx_J Γ X (RX7, cX7_rule, 2, (some .int), "rule", 2) Z (fun r0 : Int32 => .inr (some (.int r0), (ov M0 D))) (.inl (0, [some (.ref x), some (.int a1)], [], (ov M0 D))) (fC_rule u Γ D x a1) := by
  unfold fC_rule
  refine nx_aload_n rfl dX7_rule_0 rfl ?_
  refine g_getr (Or.inl fl_7_37) dX7_rule_1 rfl (fun q1 => ?_)
  refine g_callWr [] (fun r => .int (bz r)) cw_7_110 cv_X6_hasStore (fun M1 c f r hw hc e => cW_hasStore X.2.1 hw hc e) rfl rfl (Nat.le_of_ble_eq_true rfl) (Nat.le_of_ble_eq_true rfl) dX7_rule_4 rfl (fun b2 => ?_)
  refine nx_ifz_eq (t := 29) dX7_rule_7 (by decide) rfl ?_ ?_
  · refine nx_iconst dX7_rule_29 rfl ?_
    exact nx_iret dX7_rule_30 rfl rfl
  · refine nx_iload_n rfl dX7_rule_10 rfl ?_
    refine nx_iconst dX7_rule_11 rfl ?_
    refine nx_callSr [.int a1, .int (iz 3)] (fun r => .int (bz r)) (fun _ => (ov M0 D)) cw_7_114 wd_442 (fun r e => cL_within X.2.1  e) rfl rfl (Nat.le_of_ble_eq_true rfl) (Nat.le_of_ble_eq_true rfl) dX7_rule_12 rfl (fun b3 => ?_)
    refine nx_ifz_eq (t := 29) dX7_rule_15 (by decide) rfl ?_ ?_
    · refine nx_iconst dX7_rule_29 rfl ?_
      exact nx_iret dX7_rule_30 rfl rfl
    · refine nx_aload_n rfl dX7_rule_18 rfl ?_
      refine g_getr (Or.inl fl_7_37) dX7_rule_19 rfl (fun q4 => ?_)
      refine nx_iload_n rfl dX7_rule_22 rfl ?_
      refine g_callWr [.int a1] (fun r => .int r) cw_7_118 cv_X6_ruleOf (fun M1 c f r hw hc e => cW_ruleOf X.2.1 hw hc e) rfl rfl (Nat.le_of_ble_eq_true rfl) (Nat.le_of_ble_eq_true rfl) dX7_rule_23 rfl (fun x5 => ?_)
      refine nx_goto (q := 30) dX7_rule_26 (by decide) ?_
      exact nx_iret dX7_rule_30 rfl rfl
theorem cC_rule (l : Launch) {Γ : nx_G} {M0 : Nat → Option va_E} {u : Nat} {D : nx_M} {x : Nat} {a1 : Int32} {r : Int32}  (h : fC_rule u Γ D x a1 = some r) : nx_Ct l Γ 2 yX7_rule cX7_rule 2 (some .int) [.ref x, .int a1] (ov M0 D) (some (.int r), (ov M0 D)) :=
  nx_ct (out := fun r0 : Int32 => (some (.int r0), (ov M0 D))) [some (.ref x), some (.int a1)] pn_RX7 h (Nat.le_of_ble_eq_true rfl) rfl (fun X Z _ => jC_rule  u D x a1 X Z)
