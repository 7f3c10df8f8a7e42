theorem dX8_readNow_0 : decode cX8_readNow 0 = .ok (.aload_n 0, 1) := by decide +kernel
theorem dX8_readNow_1 : decode cX8_readNow 1 = .ok (.iload_n 1, 1) := by decide +kernel
theorem dX8_readNow_2 : decode cX8_readNow 2 = .ok (.iload_n 2, 1) := by decide +kernel
theorem dX8_readNow_3 : decode cX8_readNow 3 = .ok (.invokevirtual 247, 3) := by decide +kernel
theorem dX8_readNow_6 : decode cX8_readNow 6 = .ok (.istore_n 3, 1) := by decide +kernel
theorem dX8_readNow_7 : decode cX8_readNow 7 = .ok (.aload_n 0, 1) := by decide +kernel
theorem dX8_readNow_8 : decode cX8_readNow 8 = .ok (.iload_n 2, 1) := by decide +kernel
theorem dX8_readNow_9 : decode cX8_readNow 9 = .ok (.iload_n 3, 1) := by decide +kernel
theorem dX8_readNow_10 : decode cX8_readNow 10 = .ok (.iconst 1, 1) := by decide +kernel
theorem dX8_readNow_11 : decode cX8_readNow 11 = .ok (.invokevirtual 174, 3) := by decide +kernel
theorem dX8_readNow_14 : decode cX8_readNow 14 = .ok (.istore 4, 2) := by decide +kernel
theorem dX8_readNow_16 : decode cX8_readNow 16 = .ok (.iload 4, 2) := by decide +kernel
theorem dX8_readNow_18 : decode cX8_readNow 18 = .ok (.aload_n 0, 1) := by decide +kernel
theorem dX8_readNow_19 : decode cX8_readNow 19 = .ok (.iload_n 1, 1) := by decide +kernel
theorem dX8_readNow_20 : decode cX8_readNow 20 = .ok (.iconst 1, 1) := by decide +kernel
theorem dX8_readNow_21 : decode cX8_readNow 21 = .ok (.invokevirtual 165, 3) := by decide +kernel
theorem dX8_readNow_24 : decode cX8_readNow 24 = .ok (.if_icmp .eq 97, 3) := by decide +kernel
theorem dX8_readNow_27 : decode cX8_readNow 27 = .ok (.aload_n 0, 1) := by decide +kernel
theorem dX8_readNow_28 : decode cX8_readNow 28 = .ok (.getfield 28, 3) := by decide +kernel
theorem dX8_readNow_31 : decode cX8_readNow 31 = .ok (.iload_n 2, 1) := by decide +kernel
theorem dX8_readNow_32 : decode cX8_readNow 32 = .ok (.iload_n 3, 1) := by decide +kernel
theorem dX8_readNow_33 : decode cX8_readNow 33 = .ok (.iconst 3, 1) := by decide +kernel
theorem dX8_readNow_34 : decode cX8_readNow 34 = .ok (.invokestatic 138, 3) := by decide +kernel
theorem dX8_readNow_37 : decode cX8_readNow 37 = .ok (.aload_n 0, 1) := by decide +kernel
theorem dX8_readNow_38 : decode cX8_readNow 38 = .ok (.iload_n 2, 1) := by decide +kernel
theorem dX8_readNow_39 : decode cX8_readNow 39 = .ok (.iload_n 3, 1) := by decide +kernel
theorem dX8_readNow_40 : decode cX8_readNow 40 = .ok (.iconst 3, 1) := by decide +kernel
theorem dX8_readNow_41 : decode cX8_readNow 41 = .ok (.invokevirtual 174, 3) := by decide +kernel
theorem dX8_readNow_44 : decode cX8_readNow 44 = .ok (.aload_n 0, 1) := by decide +kernel
theorem dX8_readNow_45 : decode cX8_readNow 45 = .ok (.iload_n 1, 1) := by decide +kernel
theorem dX8_readNow_46 : decode cX8_readNow 46 = .ok (.iconst 1, 1) := by decide +kernel
theorem dX8_readNow_47 : decode cX8_readNow 47 = .ok (.invokevirtual 165, 3) := by decide +kernel
theorem dX8_readNow_50 : decode cX8_readNow 50 = .ok (.invokestatic 186, 3) := by decide +kernel
theorem dX8_readNow_53 : decode cX8_readNow 53 = .ok (.iastore, 1) := by decide +kernel
theorem dX8_readNow_54 : decode cX8_readNow 54 = .ok (.aload_n 0, 1) := by decide +kernel
theorem dX8_readNow_55 : decode cX8_readNow 55 = .ok (.getfield 28, 3) := by decide +kernel
theorem dX8_readNow_58 : decode cX8_readNow 58 = .ok (.iload_n 1, 1) := by decide +kernel
theorem dX8_readNow_59 : decode cX8_readNow 59 = .ok (.iconst 5, 1) := by decide +kernel
theorem dX8_readNow_60 : decode cX8_readNow 60 = .ok (.iload_n 2, 1) := by decide +kernel
theorem dX8_readNow_61 : decode cX8_readNow 61 = .ok (.iadd, 1) := by decide +kernel
theorem dX8_readNow_62 : decode cX8_readNow 62 = .ok (.invokestatic 132, 3) := by decide +kernel
theorem dX8_readNow_65 : decode cX8_readNow 65 = .ok (.iload 4, 2) := by decide +kernel
theorem dX8_readNow_67 : decode cX8_readNow 67 = .ok (.iastore, 1) := by decide +kernel
theorem dX8_readNow_68 : decode cX8_readNow 68 = .ok (.aload_n 0, 1) := by decide +kernel
theorem dX8_readNow_69 : decode cX8_readNow 69 = .ok (.iload_n 1, 1) := by decide +kernel
theorem dX8_readNow_70 : decode cX8_readNow 70 = .ok (.iconst 2, 1) := by decide +kernel
theorem dX8_readNow_71 : decode cX8_readNow 71 = .ok (.invokevirtual 165, 3) := by decide +kernel
theorem dX8_readNow_74 : decode cX8_readNow 74 = .ok (.ifCond .ne 14, 3) := by decide +kernel
theorem dX8_readNow_77 : decode cX8_readNow 77 = .ok (.aload_n 0, 1) := by decide +kernel
theorem dX8_readNow_78 : decode cX8_readNow 78 = .ok (.iload_n 1, 1) := by decide +kernel
theorem dX8_readNow_79 : decode cX8_readNow 79 = .ok (.iload_n 2, 1) := by decide +kernel
theorem dX8_readNow_80 : decode cX8_readNow 80 = .ok (.iload 4, 2) := by decide +kernel
theorem dX8_readNow_82 : decode cX8_readNow 82 = .ok (.invokevirtual 250, 3) := by decide +kernel
theorem dX8_readNow_85 : decode cX8_readNow 85 = .ok (.goto 36, 3) := by decide +kernel
theorem dX8_readNow_88 : decode cX8_readNow 88 = .ok (.aload_n 0, 1) := by decide +kernel
theorem dX8_readNow_89 : decode cX8_readNow 89 = .ok (.iload_n 2, 1) := by decide +kernel
theorem dX8_readNow_90 : decode cX8_readNow 90 = .ok (.iload_n 3, 1) := by decide +kernel
theorem dX8_readNow_91 : decode cX8_readNow 91 = .ok (.iconst 4, 1) := by decide +kernel
theorem dX8_readNow_92 : decode cX8_readNow 92 = .ok (.invokevirtual 174, 3) := by decide +kernel
theorem dX8_readNow_95 : decode cX8_readNow 95 = .ok (.iconst (-1), 1) := by decide +kernel
theorem dX8_readNow_96 : decode cX8_readNow 96 = .ok (.if_icmp .eq 25, 3) := by decide +kernel
theorem dX8_readNow_99 : decode cX8_readNow 99 = .ok (.aload_n 0, 1) := by decide +kernel
theorem dX8_readNow_100 : decode cX8_readNow 100 = .ok (.getfield 28, 3) := by decide +kernel
theorem dX8_readNow_103 : decode cX8_readNow 103 = .ok (.iload_n 1, 1) := by decide +kernel
theorem dX8_readNow_104 : decode cX8_readNow 104 = .ok (.iconst 3, 1) := by decide +kernel
theorem dX8_readNow_105 : decode cX8_readNow 105 = .ok (.invokestatic 132, 3) := by decide +kernel
theorem dX8_readNow_108 : decode cX8_readNow 108 = .ok (.dup2, 1) := by decide +kernel
theorem dX8_readNow_109 : decode cX8_readNow 109 = .ok (.iaload, 1) := by decide +kernel
theorem dX8_readNow_110 : decode cX8_readNow 110 = .ok (.iconst 1, 1) := by decide +kernel
theorem dX8_readNow_111 : decode cX8_readNow 111 = .ok (.aload_n 0, 1) := by decide +kernel
theorem dX8_readNow_112 : decode cX8_readNow 112 = .ok (.iload_n 2, 1) := by decide +kernel
theorem dX8_readNow_113 : decode cX8_readNow 113 = .ok (.iload_n 3, 1) := by decide +kernel
theorem dX8_readNow_114 : decode cX8_readNow 114 = .ok (.iconst 4, 1) := by decide +kernel
theorem dX8_readNow_115 : decode cX8_readNow 115 = .ok (.invokevirtual 174, 3) := by decide +kernel
theorem dX8_readNow_118 : decode cX8_readNow 118 = .ok (.ishl, 1) := by decide +kernel
theorem dX8_readNow_119 : decode cX8_readNow 119 = .ok (.ior, 1) := by decide +kernel
theorem dX8_readNow_120 : decode cX8_readNow 120 = .ok (.iastore, 1) := by decide +kernel
theorem dX8_readNow_121 : decode cX8_readNow 121 = .ok (.aload_n 0, 1) := by decide +kernel
theorem dX8_readNow_122 : decode cX8_readNow 122 = .ok (.iload_n 1, 1) := by decide +kernel
theorem dX8_readNow_123 : decode cX8_readNow 123 = .ok (.iconst 1, 1) := by decide +kernel
theorem dX8_readNow_124 : decode cX8_readNow 124 = .ok (.iload_n 2, 1) := by decide +kernel
theorem dX8_readNow_125 : decode cX8_readNow 125 = .ok (.iconst (-1), 1) := by decide +kernel
theorem dX8_readNow_126 : decode cX8_readNow 126 = .ok (.invokevirtual 253, 3) := by decide +kernel
theorem dX8_readNow_129 : decode cX8_readNow 129 = .ok (.aload_n 0, 1) := by decide +kernel
theorem dX8_readNow_130 : decode cX8_readNow 130 = .ok (.iconst 1, 1) := by decide +kernel
theorem dX8_readNow_131 : decode cX8_readNow 131 = .ok (.iload_n 1, 1) := by decide +kernel
theorem dX8_readNow_132 : decode cX8_readNow 132 = .ok (.iload 4, 2) := by decide +kernel
theorem dX8_readNow_134 : decode cX8_readNow 134 = .ok (.invokevirtual 201, 3) := by decide +kernel
theorem dX8_readNow_137 : decode cX8_readNow 137 = .ok (.aload_n 0, 1) := by decide +kernel
theorem dX8_readNow_138 : decode cX8_readNow 138 = .ok (.iload_n 2, 1) := by decide +kernel
theorem dX8_readNow_139 : decode cX8_readNow 139 = .ok (.iload_n 3, 1) := by decide +kernel
theorem dX8_readNow_140 : decode cX8_readNow 140 = .ok (.iconst 2, 1) := by decide +kernel
theorem dX8_readNow_141 : decode cX8_readNow 141 = .ok (.invokevirtual 174, 3) := by decide +kernel
theorem dX8_readNow_144 : decode cX8_readNow 144 = .ok (.ireturn, 1) := by decide +kernel
def fM_readNow (u : Nat) (g : mS) (a1 : Int32) (a2 : Int32) : Option (Int32 × mS) :=
  (fM_readable u g a1 a2).bind fun x1 =>
  (fM_its u g a2 x1 (iz 1)).bind fun x2 =>
  (fM_of u g a1 (iz 1)).bind fun x3 =>
  (if x2 = x3 then
     some g
   else
     (fM_cell u a2 x1 (iz 3)).bind fun x4 =>
     (fM_its u g a2 x1 (iz 3)).bind fun x5 =>
     (fM_of u g a1 (iz 1)).bind fun x6 =>
     (mWr g 7 x4 (if x5 < x6 then x6 else x5)).bind fun g7 =>
     (fM_ofSeat u a1 ((iz 5) + a2)).bind fun x8 =>
     (mWr g7 7 x8 x2).bind fun g9 =>
     (fM_of u g9 a1 (iz 2)).bind fun x10 =>
     if x10 = iz 0 then
       (fM_doom u g9 a1 a2 x2).bind fun g16 =>
       some g16
     else
       (fM_its u g9 a2 x1 (iz 4)).bind fun x11 =>
       if x11 = (iz (-1)) then
         some g9
       else
         (fM_ofSeat u a1 (iz 3)).bind fun x12 =>
         (nx_rd (mlen 7) (g9.1 7) x12).bind fun x13 =>
         (fM_its u g9 a2 x1 (iz 4)).bind fun x14 =>
         (mWr g9 7 x12 (x13 ||| ((iz 1) <<< (x14 &&& 31)))).bind fun g15 =>
         some g15 : Option (mS)).bind fun s17 =>
  (fM_addDeed u s17 a1 (iz 1) a2 (iz (-1))).bind fun g18 =>
  (fM_note u g18 (iz 1) a1 x2).bind fun g19 =>
  (fM_its u g19 a2 x1 (iz 2)).bind fun x20 =>
  some (x20, g19)
set_option maxRecDepth 4000 in
theorem jM_readNow {Γ : nx_G} {M0 : nx_M} {m : Nat} (u : Nat) (g : mS) (a1 : Int32) (a2 : Int32)   (X : nx_X) (Z : nx_Z) : nx_J Γ X (RX8, cX8_readNow, 5, (some .int), "readNow", 5) Z (fun r0 : Int32 × mS => .inr (some (.int r0.1), (mW Γ M0 m r0.2))) (.inl (0, [some (.ref m), some (.int a1), some (.int a2), none, none], [], (mW Γ M0 m g))) (fM_readNow u g a1 a2) := by
  unfold fM_readNow
  refine nx_aload_n rfl dX8_readNow_0 rfl ?_
  refine nx_iload_n rfl dX8_readNow_1 rfl ?_
  refine nx_iload_n rfl dX8_readNow_2 rfl ?_
  refine nx_callVr [.int a1, .int a2] (fun r => .int r) (fun _ => (mW Γ M0 m g)) cw_8_247 cv_X8_readable (fun r e => cM_readable X.2.1  e) mW_m rfl rfl (Nat.le_of_ble_eq_true rfl) (Nat.le_of_ble_eq_true rfl) dX8_readNow_3 rfl (fun x1 => ?_)
  refine nx_istore_n [some (.ref m), some (.int a1), some (.int a2), some (.int x1), none] dX8_readNow_6 rfl (Nat.le_of_ble_eq_true rfl) rfl rfl ?_
  refine nx_aload_n rfl dX8_readNow_7 rfl ?_
  refine nx_iload_n rfl dX8_readNow_8 rfl ?_
  refine nx_iload_n rfl dX8_readNow_9 rfl ?_
  refine nx_iconst dX8_readNow_10 rfl ?_
  refine nx_callVr [.int a2, .int x1, .int (iz 1)] (fun r => .int r) (fun _ => (mW Γ M0 m g)) cw_8_174 cv_X8_its (fun r e => cM_its X.2.1  e) mW_m rfl rfl (Nat.le_of_ble_eq_true rfl) (Nat.le_of_ble_eq_true rfl) dX8_readNow_11 rfl (fun x2 => ?_)
  refine nx_istore [some (.ref m), some (.int a1), some (.int a2), some (.int x1), some (.int x2)] dX8_readNow_14 rfl (Nat.le_of_ble_eq_true rfl) rfl rfl ?_
  refine nx_iload rfl dX8_readNow_16 rfl ?_
  refine nx_aload_n rfl dX8_readNow_18 rfl ?_
  refine nx_iload_n rfl dX8_readNow_19 rfl ?_
  refine nx_iconst dX8_readNow_20 rfl ?_
  refine nx_callVr [.int a1, .int (iz 1)] (fun r => .int r) (fun _ => (mW Γ M0 m g)) cw_8_165 cv_X8_of (fun r e => cM_of X.2.1  e) mW_m rfl rfl (Nat.le_of_ble_eq_true rfl) (Nat.le_of_ble_eq_true rfl) dX8_readNow_21 rfl (fun x3 => ?_)
  refine nx_seq (C1 := fun s17 : mS => .inl (121, [some (.ref m), some (.int a1), some (.int a2), some (.int x1), some (.int x2)], [], (mW Γ M0 m s17))) ?_ (fun s17 => ?_)
  · refine nx_icmp_eq (t := 121) dX8_readNow_24 (by decide) rfl ?_ ?_
    · exact nx_leaf rfl
    · refine nx_aload_n rfl dX8_readNow_27 rfl ?_
      refine nx_getf fl_8_28 mW_m rfl dX8_readNow_28 rfl ?_
      refine nx_iload_n rfl dX8_readNow_31 rfl ?_
      refine nx_iload_n rfl dX8_readNow_32 rfl ?_
      refine nx_iconst dX8_readNow_33 rfl ?_
      refine nx_callSr [.int a2, .int x1, .int (iz 3)] (fun r => .int r) (fun _ => (mW Γ M0 m g)) cw_8_138 wd_1321 (fun r e => cM_cell X.2.1  e) rfl rfl (Nat.le_of_ble_eq_true rfl) (Nat.le_of_ble_eq_true rfl) dX8_readNow_34 rfl (fun x4 => ?_)
      refine nx_aload_n rfl dX8_readNow_37 rfl ?_
      refine nx_iload_n rfl dX8_readNow_38 rfl ?_
      refine nx_iload_n rfl dX8_readNow_39 rfl ?_
      refine nx_iconst dX8_readNow_40 rfl ?_
      refine nx_callVr [.int a2, .int x1, .int (iz 3)] (fun r => .int r) (fun _ => (mW Γ M0 m g)) cw_8_174 cv_X8_its (fun r e => cM_its X.2.1  e) mW_m rfl rfl (Nat.le_of_ble_eq_true rfl) (Nat.le_of_ble_eq_true rfl) dX8_readNow_41 rfl (fun x5 => ?_)
      refine nx_aload_n rfl dX8_readNow_44 rfl ?_
      refine nx_iload_n rfl dX8_readNow_45 rfl ?_
      refine nx_iconst dX8_readNow_46 rfl ?_
      refine nx_callVr [.int a1, .int (iz 1)] (fun r => .int r) (fun _ => (mW Γ M0 m g)) cw_8_165 cv_X8_of (fun r e => cM_of X.2.1  e) mW_m rfl rfl (Nat.le_of_ble_eq_true rfl) (Nat.le_of_ble_eq_true rfl) dX8_readNow_47 rfl (fun x6 => ?_)
      refine nx_max wd_1426 wd_685 wd_206 wd_686 (Nat.le_of_ble_eq_true rfl) (Nat.le_of_ble_eq_true rfl) dX8_readNow_50 rfl ?_
      refine m_iast 7 ⟨Nat.le_of_ble_eq_true rfl, Nat.le_of_ble_eq_true rfl⟩ dX8_readNow_53 rfl (fun g7 => ?_)
      refine nx_aload_n rfl dX8_readNow_54 rfl ?_
      refine nx_getf fl_8_28 mW_m rfl dX8_readNow_55 rfl ?_
      refine nx_iload_n rfl dX8_readNow_58 rfl ?_
      refine nx_iconst dX8_readNow_59 rfl ?_
      refine nx_iload_n rfl dX8_readNow_60 rfl ?_
      refine nx_iadd dX8_readNow_61 rfl ?_
      refine nx_callSr [.int a1, .int ((iz 5) + a2)] (fun r => .int r) (fun _ => (mW Γ M0 m g7)) cw_8_132 wd_1348 (fun r e => cM_ofSeat X.2.1  e) rfl rfl (Nat.le_of_ble_eq_true rfl) (Nat.le_of_ble_eq_true rfl) dX8_readNow_62 rfl (fun x8 => ?_)
      refine nx_iload rfl dX8_readNow_65 rfl ?_
      refine m_iast 7 ⟨Nat.le_of_ble_eq_true rfl, Nat.le_of_ble_eq_true rfl⟩ dX8_readNow_67 rfl (fun g9 => ?_)
      refine nx_aload_n rfl dX8_readNow_68 rfl ?_
      refine nx_iload_n rfl dX8_readNow_69 rfl ?_
      refine nx_iconst dX8_readNow_70 rfl ?_
      refine nx_callVr [.int a1, .int (iz 2)] (fun r => .int r) (fun _ => (mW Γ M0 m g9)) cw_8_165 cv_X8_of (fun r e => cM_of X.2.1  e) mW_m rfl rfl (Nat.le_of_ble_eq_true rfl) (Nat.le_of_ble_eq_true rfl) dX8_readNow_71 rfl (fun x10 => ?_)
      refine nx_if_ne (t := 88) dX8_readNow_74 (by decide) rfl ?_ ?_
      · refine nx_aload_n rfl dX8_readNow_88 rfl ?_
        refine nx_iload_n rfl dX8_readNow_89 rfl ?_
        refine nx_iload_n rfl dX8_readNow_90 rfl ?_
        refine nx_iconst dX8_readNow_91 rfl ?_
        refine nx_callVr [.int a2, .int x1, .int (iz 4)] (fun r => .int r) (fun _ => (mW Γ M0 m g9)) cw_8_174 cv_X8_its (fun r e => cM_its X.2.1  e) mW_m rfl rfl (Nat.le_of_ble_eq_true rfl) (Nat.le_of_ble_eq_true rfl) dX8_readNow_92 rfl (fun x11 => ?_)
        refine nx_iconst dX8_readNow_95 rfl ?_
        refine nx_icmp_eq (t := 121) dX8_readNow_96 (by decide) rfl ?_ ?_
        · exact nx_leaf rfl
        · refine nx_aload_n rfl dX8_readNow_99 rfl ?_
          refine nx_getf fl_8_28 mW_m rfl dX8_readNow_100 rfl ?_
          refine nx_iload_n rfl dX8_readNow_103 rfl ?_
          refine nx_iconst dX8_readNow_104 rfl ?_
          refine nx_callSr [.int a1, .int (iz 3)] (fun r => .int r) (fun _ => (mW Γ M0 m g9)) cw_8_132 wd_1348 (fun r e => cM_ofSeat X.2.1  e) rfl rfl (Nat.le_of_ble_eq_true rfl) (Nat.le_of_ble_eq_true rfl) dX8_readNow_105 rfl (fun x12 => ?_)
          refine nx_dup2 rfl rfl dX8_readNow_108 rfl ?_
          refine m_iald 7 ⟨Nat.le_of_ble_eq_true rfl, Nat.le_of_ble_eq_true rfl⟩ dX8_readNow_109 rfl (fun x13 => ?_)
          refine nx_iconst dX8_readNow_110 rfl ?_
          refine nx_aload_n rfl dX8_readNow_111 rfl ?_
          refine nx_iload_n rfl dX8_readNow_112 rfl ?_
          refine nx_iload_n rfl dX8_readNow_113 rfl ?_
          refine nx_iconst dX8_readNow_114 rfl ?_
          refine nx_callVr [.int a2, .int x1, .int (iz 4)] (fun r => .int r) (fun _ => (mW Γ M0 m g9)) cw_8_174 cv_X8_its (fun r e => cM_its X.2.1  e) mW_m rfl rfl (Nat.le_of_ble_eq_true rfl) (Nat.le_of_ble_eq_true rfl) dX8_readNow_115 rfl (fun x14 => ?_)
          refine nx_ishl dX8_readNow_118 rfl ?_
          refine nx_ior dX8_readNow_119 rfl ?_
          refine m_iast 7 ⟨Nat.le_of_ble_eq_true rfl, Nat.le_of_ble_eq_true rfl⟩ dX8_readNow_120 rfl (fun g15 => ?_)
          exact nx_leaf rfl
      · refine nx_aload_n rfl dX8_readNow_77 rfl ?_
        refine nx_iload_n rfl dX8_readNow_78 rfl ?_
        refine nx_iload_n rfl dX8_readNow_79 rfl ?_
        refine nx_iload rfl dX8_readNow_80 rfl ?_
        refine nx_callVv [.int a1, .int a2, .int x2] (fun r => (mW Γ M0 m r)) cw_8_250 cv_X8_doom (fun r e => cM_doom X.2.1  e) mW_m rfl rfl (Nat.le_of_ble_eq_true rfl) (Nat.le_of_ble_eq_true rfl) dX8_readNow_82 rfl (fun g16 => ?_)
        refine nx_goto (q := 121) dX8_readNow_85 (by decide) ?_
        exact nx_leaf rfl
  refine nx_aload_n rfl dX8_readNow_121 rfl ?_
  refine nx_iload_n rfl dX8_readNow_122 rfl ?_
  refine nx_iconst dX8_readNow_123 rfl ?_
  refine nx_iload_n rfl dX8_readNow_124 rfl ?_
  refine nx_iconst dX8_readNow_125 rfl ?_
  refine nx_callVv [.int a1, .int (iz 1), .int a2, .int (iz (-1))] (fun r => (mW Γ M0 m r)) cw_8_253 cv_X8_addDeed (fun r e => cM_addDeed X.2.1  e) mW_m rfl rfl (Nat.le_of_ble_eq_true rfl) (Nat.le_of_ble_eq_true rfl) dX8_readNow_126 rfl (fun g18 => ?_)
  refine nx_aload_n rfl dX8_readNow_129 rfl ?_
  refine nx_iconst dX8_readNow_130 rfl ?_
  refine nx_iload_n rfl dX8_readNow_131 rfl ?_
  refine nx_iload rfl dX8_readNow_132 rfl ?_
  refine nx_callVv [.int (iz 1), .int a1, .int x2] (fun r => (mW Γ M0 m r)) cw_8_201 cv_X8_note (fun r e => cM_note X.2.1  e) mW_m rfl rfl (Nat.le_of_ble_eq_true rfl) (Nat.le_of_ble_eq_true rfl) dX8_readNow_134 rfl (fun g19 => ?_)
  refine nx_aload_n rfl dX8_readNow_137 rfl ?_
  refine nx_iload_n rfl dX8_readNow_138 rfl ?_
  refine nx_iload_n rfl dX8_readNow_139 rfl ?_
  refine nx_iconst dX8_readNow_140 rfl ?_
  refine nx_callVr [.int a2, .int x1, .int (iz 2)] (fun r => .int r) (fun _ => (mW Γ M0 m g19)) cw_8_174 cv_X8_its (fun r e => cM_its X.2.1  e) mW_m rfl rfl (Nat.le_of_ble_eq_true rfl) (Nat.le_of_ble_eq_true rfl) dX8_readNow_141 rfl (fun x20 => ?_)
  exact nx_iret dX8_readNow_144 rfl rfl
theorem cM_readNow (l : Launch) {Γ : nx_G} {M0 : nx_M} {m : Nat} {u : Nat} {g : mS} {a1 : Int32} {a2 : Int32} {r : Int32 × mS}  (h : fM_readNow u g a1 a2 = some r) : nx_Ct l Γ 5 yX8_readNow cX8_readNow 5 (some .int) [.ref m, .int a1, .int a2] (mW Γ M0 m g) (some (.int r.1), (mW Γ M0 m r.2)) :=
  nx_ct (out := fun r0 : Int32 × mS => (some (.int r0.1), (mW Γ M0 m r0.2))) [some (.ref m), some (.int a1), some (.int a2), none, none] pn_RX8 h (Nat.le_of_ble_eq_true rfl) rfl (fun X Z _ => jM_readNow  u g a1 a2 X Z)
theorem dX8_writeNow_0 : decode cX8_writeNow 0 = .ok (.aload_n 0, 1) := by decide +kernel
theorem dX8_writeNow_1 : decode cX8_writeNow 1 = .ok (.iload_n 1, 1) := by decide +kernel
theorem dX8_writeNow_2 : decode cX8_writeNow 2 = .ok (.iconst 2, 1) := by decide +kernel
theorem dX8_writeNow_3 : decode cX8_writeNow 3 = .ok (.iload_n 2, 1) := by decide +kernel
theorem dX8_writeNow_4 : decode cX8_writeNow 4 = .ok (.iload_n 3, 1) := by decide +kernel
theorem dX8_writeNow_5 : decode cX8_writeNow 5 = .ok (.invokevirtual 253, 3) := by decide +kernel
theorem dX8_writeNow_8 : decode cX8_writeNow 8 = .ok (.aload_n 0, 1) := by decide +kernel
theorem dX8_writeNow_9 : decode cX8_writeNow 9 = .ok (.iload_n 2, 1) := by decide +kernel
theorem dX8_writeNow_10 : decode cX8_writeNow 10 = .ok (.aload_n 0, 1) := by decide +kernel
theorem dX8_writeNow_11 : decode cX8_writeNow 11 = .ok (.iload_n 1, 1) := by decide +kernel
theorem dX8_writeNow_12 : decode cX8_writeNow 12 = .ok (.iconst 1, 1) := by decide +kernel
theorem dX8_writeNow_13 : decode cX8_writeNow 13 = .ok (.invokevirtual 165, 3) := by decide +kernel
theorem dX8_writeNow_16 : decode cX8_writeNow 16 = .ok (.invokevirtual 238, 3) := by decide +kernel
theorem dX8_writeNow_19 : decode cX8_writeNow 19 = .ok (.ifCond .eq 20, 3) := by decide +kernel
theorem dX8_writeNow_22 : decode cX8_writeNow 22 = .ok (.aload_n 0, 1) := by decide +kernel
theorem dX8_writeNow_23 : decode cX8_writeNow 23 = .ok (.iconst 2, 1) := by decide +kernel
theorem dX8_writeNow_24 : decode cX8_writeNow 24 = .ok (.iload_n 1, 1) := by decide +kernel
theorem dX8_writeNow_25 : decode cX8_writeNow 25 = .ok (.bipush (-2), 2) := by decide +kernel
theorem dX8_writeNow_27 : decode cX8_writeNow 27 = .ok (.invokevirtual 201, 3) := by decide +kernel
theorem dX8_writeNow_30 : decode cX8_writeNow 30 = .ok (.aload_n 0, 1) := by decide +kernel
theorem dX8_writeNow_31 : decode cX8_writeNow 31 = .ok (.iload_n 1, 1) := by decide +kernel
theorem dX8_writeNow_32 : decode cX8_writeNow 32 = .ok (.invokevirtual 223, 3) := by decide +kernel
theorem dX8_writeNow_35 : decode cX8_writeNow 35 = .ok (.pop, 1) := by decide +kernel
theorem dX8_writeNow_36 : decode cX8_writeNow 36 = .ok (.bipush (-2), 2) := by decide +kernel
theorem dX8_writeNow_38 : decode cX8_writeNow 38 = .ok (.ireturn, 1) := by decide +kernel
theorem dX8_writeNow_39 : decode cX8_writeNow 39 = .ok (.aload_n 0, 1) := by decide +kernel
theorem dX8_writeNow_40 : decode cX8_writeNow 40 = .ok (.iload_n 2, 1) := by decide +kernel
theorem dX8_writeNow_41 : decode cX8_writeNow 41 = .ok (.aload_n 0, 1) := by decide +kernel
theorem dX8_writeNow_42 : decode cX8_writeNow 42 = .ok (.iload_n 1, 1) := by decide +kernel
theorem dX8_writeNow_43 : decode cX8_writeNow 43 = .ok (.iconst 1, 1) := by decide +kernel
theorem dX8_writeNow_44 : decode cX8_writeNow 44 = .ok (.invokevirtual 165, 3) := by decide +kernel
theorem dX8_writeNow_47 : decode cX8_writeNow 47 = .ok (.invokevirtual 177, 3) := by decide +kernel
theorem dX8_writeNow_50 : decode cX8_writeNow 50 = .ok (.istore 4, 2) := by decide +kernel
theorem dX8_writeNow_52 : decode cX8_writeNow 52 = .ok (.iload 4, 2) := by decide +kernel
theorem dX8_writeNow_54 : decode cX8_writeNow 54 = .ok (.iconst (-1), 1) := by decide +kernel
theorem dX8_writeNow_55 : decode cX8_writeNow 55 = .ok (.if_icmp .eq 19, 3) := by decide +kernel
theorem dX8_writeNow_58 : decode cX8_writeNow 58 = .ok (.aload_n 0, 1) := by decide +kernel
theorem dX8_writeNow_59 : decode cX8_writeNow 59 = .ok (.getfield 28, 3) := by decide +kernel
theorem dX8_writeNow_62 : decode cX8_writeNow 62 = .ok (.iload_n 2, 1) := by decide +kernel
theorem dX8_writeNow_63 : decode cX8_writeNow 63 = .ok (.iload 4, 2) := by decide +kernel
theorem dX8_writeNow_65 : decode cX8_writeNow 65 = .ok (.iconst 2, 1) := by decide +kernel
theorem dX8_writeNow_66 : decode cX8_writeNow 66 = .ok (.invokestatic 138, 3) := by decide +kernel
theorem dX8_writeNow_69 : decode cX8_writeNow 69 = .ok (.iload_n 3, 1) := by decide +kernel
theorem dX8_writeNow_70 : decode cX8_writeNow 70 = .ok (.iastore, 1) := by decide +kernel
theorem dX8_writeNow_71 : decode cX8_writeNow 71 = .ok (.goto 10, 3) := by decide +kernel
theorem dX8_writeNow_74 : decode cX8_writeNow 74 = .ok (.aload_n 0, 1) := by decide +kernel
theorem dX8_writeNow_75 : decode cX8_writeNow 75 = .ok (.iload_n 1, 1) := by decide +kernel
theorem dX8_writeNow_76 : decode cX8_writeNow 76 = .ok (.iload_n 2, 1) := by decide +kernel
theorem dX8_writeNow_77 : decode cX8_writeNow 77 = .ok (.iload_n 3, 1) := by decide +kernel
theorem dX8_writeNow_78 : decode cX8_writeNow 78 = .ok (.invokevirtual 257, 3) := by decide +kernel
theorem dX8_writeNow_81 : decode cX8_writeNow 81 = .ok (.aload_n 0, 1) := by decide +kernel
theorem dX8_writeNow_82 : decode cX8_writeNow 82 = .ok (.iconst 2, 1) := by decide +kernel
theorem dX8_writeNow_83 : decode cX8_writeNow 83 = .ok (.iload_n 1, 1) := by decide +kernel
theorem dX8_writeNow_84 : decode cX8_writeNow 84 = .ok (.iload 4, 2) := by decide +kernel
theorem dX8_writeNow_86 : decode cX8_writeNow 86 = .ok (.iconst (-1), 1) := by decide +kernel
theorem dX8_writeNow_87 : decode cX8_writeNow 87 = .ok (.if_icmp .ne 7, 3) := by decide +kernel
theorem dX8_writeNow_90 : decode cX8_writeNow 90 = .ok (.iconst 1, 1) := by decide +kernel
theorem dX8_writeNow_91 : decode cX8_writeNow 91 = .ok (.goto 4, 3) := by decide +kernel
theorem dX8_writeNow_94 : decode cX8_writeNow 94 = .ok (.iconst 0, 1) := by decide +kernel
theorem dX8_writeNow_95 : decode cX8_writeNow 95 = .ok (.invokevirtual 201, 3) := by decide +kernel
theorem dX8_writeNow_98 : decode cX8_writeNow 98 = .ok (.iload 4, 2) := by decide +kernel
theorem dX8_writeNow_100 : decode cX8_writeNow 100 = .ok (.iconst (-1), 1) := by decide +kernel
theorem dX8_writeNow_101 : decode cX8_writeNow 101 = .ok (.if_icmp .ne 7, 3) := by decide +kernel
theorem dX8_writeNow_104 : decode cX8_writeNow 104 = .ok (.iconst 1, 1) := by decide +kernel
theorem dX8_writeNow_105 : decode cX8_writeNow 105 = .ok (.goto 4, 3) := by decide +kernel
theorem dX8_writeNow_108 : decode cX8_writeNow 108 = .ok (.iconst 0, 1) := by decide +kernel
theorem dX8_writeNow_109 : decode cX8_writeNow 109 = .ok (.ireturn, 1) := by decide +kernel
def fM_writeNow (u : Nat) (g : mS) (a1 : Int32) (a2 : Int32) (a3 : Int32) : Option (Int32 × mS) :=
  (fM_addDeed u g a1 (iz 2) a2 a3).bind fun g1 =>
  (fM_of u g1 a1 (iz 1)).bind fun x2 =>
  (fM_isLate u g1 a2 x2).bind fun b3 =>
  if b3 = true then
    (fM_note u g1 (iz 2) a1 (iz (-2))).bind fun g12 =>
    (fM_fall u g12 a1).bind fun p13 =>
    some ((iz (-2)), p13.2)
  else
    (fM_of u g1 a1 (iz 1)).bind fun x4 =>
    (fM_placeOf u g1 a2 x4).bind fun x5 =>
    (if x5 = (iz (-1)) then
       (fM_addVersion u g1 a1 a2 a3).bind fun g6 =>
       some g6
     else
       (fM_cell u a2 x5 (iz 2)).bind fun x7 =>
       (mWr g1 7 x7 a3).bind fun g8 =>
       some g8 : Option (mS)).bind fun s9 =>
    (if x5 = (iz (-1)) then
       some (iz 1)
     else
       some (iz 0) : Option (Int32)).bind fun s10 =>
    (fM_note u s9 (iz 2) a1 s10).bind fun g11 =>
    if x5 = (iz (-1)) then
      some ((iz 1), g11)
    else
      some ((iz 0), g11)
set_option maxRecDepth 4000 in
theorem jM_writeNow {Γ : nx_G} {M0 : nx_M} {m : Nat} (u : Nat) (g : mS) (a1 : Int32) (a2 : Int32) (a3 : Int32)   (X : nx_X) (Z : nx_Z) : nx_J Γ X (RX8, cX8_writeNow, 5, (some .int), "writeNow", 6) Z (fun r0 : Int32 × mS => .inr (some (.int r0.1), (mW Γ M0 m r0.2))) (.inl (0, [some (.ref m), some (.int a1), some (.int a2), some (.int a3), none], [], (mW Γ M0 m g))) (fM_writeNow u g a1 a2 a3) := by
  unfold fM_writeNow
  refine nx_aload_n rfl dX8_writeNow_0 rfl ?_
  refine nx_iload_n rfl dX8_writeNow_1 rfl ?_
  refine nx_iconst dX8_writeNow_2 rfl ?_
  refine nx_iload_n rfl dX8_writeNow_3 rfl ?_
  refine nx_iload_n rfl dX8_writeNow_4 rfl ?_
  refine nx_callVv [.int a1, .int (iz 2), .int a2, .int a3] (fun r => (mW Γ M0 m r)) cw_8_253 cv_X8_addDeed (fun r e => cM_addDeed X.2.1  e) mW_m rfl rfl (Nat.le_of_ble_eq_true rfl) (Nat.le_of_ble_eq_true rfl) dX8_writeNow_5 rfl (fun g1 => ?_)
  refine nx_aload_n rfl dX8_writeNow_8 rfl ?_
  refine nx_iload_n rfl dX8_writeNow_9 rfl ?_
  refine nx_aload_n rfl dX8_writeNow_10 rfl ?_
  refine nx_iload_n rfl dX8_writeNow_11 rfl ?_
  refine nx_iconst dX8_writeNow_12 rfl ?_
  refine nx_callVr [.int a1, .int (iz 1)] (fun r => .int r) (fun _ => (mW Γ M0 m g1)) cw_8_165 cv_X8_of (fun r e => cM_of X.2.1  e) mW_m rfl rfl (Nat.le_of_ble_eq_true rfl) (Nat.le_of_ble_eq_true rfl) dX8_writeNow_13 rfl (fun x2 => ?_)
  refine nx_callVr [.int a2, .int x2] (fun r => .int (bz r)) (fun _ => (mW Γ M0 m g1)) cw_8_238 cv_X8_isLate (fun r e => cM_isLate X.2.1  e) mW_m rfl rfl (Nat.le_of_ble_eq_true rfl) (Nat.le_of_ble_eq_true rfl) dX8_writeNow_16 rfl (fun b3 => ?_)
  refine nx_ifz_eq (t := 39) dX8_writeNow_19 (by decide) rfl ?_ ?_
  · refine nx_aload_n rfl dX8_writeNow_39 rfl ?_
    refine nx_iload_n rfl dX8_writeNow_40 rfl ?_
    refine nx_aload_n rfl dX8_writeNow_41 rfl ?_
    refine nx_iload_n rfl dX8_writeNow_42 rfl ?_
    refine nx_iconst dX8_writeNow_43 rfl ?_
    refine nx_callVr [.int a1, .int (iz 1)] (fun r => .int r) (fun _ => (mW Γ M0 m g1)) cw_8_165 cv_X8_of (fun r e => cM_of X.2.1  e) mW_m rfl rfl (Nat.le_of_ble_eq_true rfl) (Nat.le_of_ble_eq_true rfl) dX8_writeNow_44 rfl (fun x4 => ?_)
    refine nx_callVr [.int a2, .int x4] (fun r => .int r) (fun _ => (mW Γ M0 m g1)) cw_8_177 cv_X8_placeOf (fun r e => cM_placeOf X.2.1  e) mW_m rfl rfl (Nat.le_of_ble_eq_true rfl) (Nat.le_of_ble_eq_true rfl) dX8_writeNow_47 rfl (fun x5 => ?_)
    refine nx_istore [some (.ref m), some (.int a1), some (.int a2), some (.int a3), some (.int x5)] dX8_writeNow_50 rfl (Nat.le_of_ble_eq_true rfl) rfl rfl ?_
    refine nx_iload rfl dX8_writeNow_52 rfl ?_
    refine nx_iconst dX8_writeNow_54 rfl ?_
    refine nx_seq (C1 := fun s9 : mS => .inl (81, [some (.ref m), some (.int a1), some (.int a2), some (.int a3), some (.int x5)], [], (mW Γ M0 m s9))) ?_ (fun s9 => ?_)
    · refine nx_icmp_eq (t := 74) dX8_writeNow_55 (by decide) rfl ?_ ?_
      · refine nx_aload_n rfl dX8_writeNow_74 rfl ?_
        refine nx_iload_n rfl dX8_writeNow_75 rfl ?_
        refine nx_iload_n rfl dX8_writeNow_76 rfl ?_
        refine nx_iload_n rfl dX8_writeNow_77 rfl ?_
        refine nx_callVv [.int a1, .int a2, .int a3] (fun r => (mW Γ M0 m r)) cw_8_257 cv_X8_addVersion (fun r e => cM_addVersion X.2.1  e) mW_m rfl rfl (Nat.le_of_ble_eq_true rfl) (Nat.le_of_ble_eq_true rfl) dX8_writeNow_78 rfl (fun g6 => ?_)
        exact nx_leaf rfl
      · refine nx_aload_n rfl dX8_writeNow_58 rfl ?_
        refine nx_getf fl_8_28 mW_m rfl dX8_writeNow_59 rfl ?_
        refine nx_iload_n rfl dX8_writeNow_62 rfl ?_
        refine nx_iload rfl dX8_writeNow_63 rfl ?_
        refine nx_iconst dX8_writeNow_65 rfl ?_
        refine nx_callSr [.int a2, .int x5, .int (iz 2)] (fun r => .int r) (fun _ => (mW Γ M0 m g1)) cw_8_138 wd_1321 (fun r e => cM_cell X.2.1  e) rfl rfl (Nat.le_of_ble_eq_true rfl) (Nat.le_of_ble_eq_true rfl) dX8_writeNow_66 rfl (fun x7 => ?_)
        refine nx_iload_n rfl dX8_writeNow_69 rfl ?_
        refine m_iast 7 ⟨Nat.le_of_ble_eq_true rfl, Nat.le_of_ble_eq_true rfl⟩ dX8_writeNow_70 rfl (fun g8 => ?_)
        refine nx_goto (q := 81) dX8_writeNow_71 (by decide) ?_
        exact nx_leaf rfl
    refine nx_aload_n rfl dX8_writeNow_81 rfl ?_
    refine nx_iconst dX8_writeNow_82 rfl ?_
    refine nx_iload_n rfl dX8_writeNow_83 rfl ?_
    refine nx_iload rfl dX8_writeNow_84 rfl ?_
    refine nx_iconst dX8_writeNow_86 rfl ?_
    refine nx_seq (C1 := fun s10 : Int32 => .inl (95, [some (.ref m), some (.int a1), some (.int a2), some (.int a3), some (.int x5)], [.int s10, .int a1, .int (iz 2), .ref m], (mW Γ M0 m s9))) ?_ (fun s10 => ?_)
    · refine nx_icmp_ne (t := 94) dX8_writeNow_87 (by decide) rfl ?_ ?_
      · refine nx_iconst dX8_writeNow_94 rfl ?_
        exact nx_leaf rfl
      · refine nx_iconst dX8_writeNow_90 rfl ?_
        refine nx_goto (q := 95) dX8_writeNow_91 (by decide) ?_
        exact nx_leaf rfl
    refine nx_callVv [.int (iz 2), .int a1, .int s10] (fun r => (mW Γ M0 m r)) cw_8_201 cv_X8_note (fun r e => cM_note X.2.1  e) mW_m rfl rfl (Nat.le_of_ble_eq_true rfl) (Nat.le_of_ble_eq_true rfl) dX8_writeNow_95 rfl (fun g11 => ?_)
    refine nx_iload rfl dX8_writeNow_98 rfl ?_
    refine nx_iconst dX8_writeNow_100 rfl ?_
    refine nx_icmp_ne (t := 108) dX8_writeNow_101 (by decide) rfl ?_ ?_
    · refine nx_iconst dX8_writeNow_108 rfl ?_
      exact nx_iret dX8_writeNow_109 rfl rfl
    · refine nx_iconst dX8_writeNow_104 rfl ?_
      refine nx_goto (q := 109) dX8_writeNow_105 (by decide) ?_
      exact nx_iret dX8_writeNow_109 rfl rfl
  · refine nx_aload_n rfl dX8_writeNow_22 rfl ?_
    refine nx_iconst dX8_writeNow_23 rfl ?_
    refine nx_iload_n rfl dX8_writeNow_24 rfl ?_
    refine nx_bipush (by decide +kernel) dX8_writeNow_25 rfl ?_
    refine nx_callVv [.int (iz 2), .int a1, .int (iz (-2))] (fun r => (mW Γ M0 m r)) cw_8_201 cv_X8_note (fun r e => cM_note X.2.1  e) mW_m rfl rfl (Nat.le_of_ble_eq_true rfl) (Nat.le_of_ble_eq_true rfl) dX8_writeNow_27 rfl (fun g12 => ?_)
    refine nx_aload_n rfl dX8_writeNow_30 rfl ?_
    refine nx_iload_n rfl dX8_writeNow_31 rfl ?_
    refine nx_callVr [.int a1] (fun r => .int r.1) (fun r => (mW Γ M0 m r.2)) cw_8_223 cv_X8_fall (fun r e => cM_fall X.2.1  e) mW_m rfl rfl (Nat.le_of_ble_eq_true rfl) (Nat.le_of_ble_eq_true rfl) dX8_writeNow_32 rfl (fun p13 => ?_)
    refine nx_pop rfl dX8_writeNow_35 rfl ?_
    refine nx_bipush (by decide +kernel) dX8_writeNow_36 rfl ?_
    exact nx_iret dX8_writeNow_38 rfl rfl
theorem cM_writeNow (l : Launch) {Γ : nx_G} {M0 : nx_M} {m : Nat} {u : Nat} {g : mS} {a1 : Int32} {a2 : Int32} {a3 : Int32} {r : Int32 × mS}  (h : fM_writeNow u g a1 a2 a3 = some r) : nx_Ct l Γ 6 yX8_writeNow cX8_writeNow 5 (some .int) [.ref m, .int a1, .int a2, .int a3] (mW Γ M0 m g) (some (.int r.1), (mW Γ M0 m r.2)) :=
  nx_ct (out := fun r0 : Int32 × mS => (some (.int r0.1), (mW Γ M0 m r0.2))) [some (.ref m), some (.int a1), some (.int a2), some (.int a3), none] pn_RX8 h (Nat.le_of_ble_eq_true rfl) rfl (fun X Z _ => jM_writeNow  u g a1 a2 a3 X Z)
theorem dX8_commitNow_0 : decode cX8_commitNow 0 = .ok (.aload_n 0, 1) := by decide +kernel
theorem dX8_commitNow_1 : decode cX8_commitNow 1 = .ok (.iload_n 1, 1) := by decide +kernel
theorem dX8_commitNow_2 : decode cX8_commitNow 2 = .ok (.iconst 4, 1) := by decide +kernel
theorem dX8_commitNow_3 : decode cX8_commitNow 3 = .ok (.invokevirtual 165, 3) := by decide +kernel
theorem dX8_commitNow_6 : decode cX8_commitNow 6 = .ok (.iconst 1, 1) := by decide +kernel
theorem dX8_commitNow_7 : decode cX8_commitNow 7 = .ok (.if_icmp .ne 12, 3) := by decide +kernel
theorem dX8_commitNow_10 : decode cX8_commitNow 10 = .ok (.aload_n 0, 1) := by decide +kernel
theorem dX8_commitNow_11 : decode cX8_commitNow 11 = .ok (.iload_n 1, 1) := by decide +kernel
theorem dX8_commitNow_12 : decode cX8_commitNow 12 = .ok (.invokevirtual 223, 3) := by decide +kernel
theorem dX8_commitNow_15 : decode cX8_commitNow 15 = .ok (.pop, 1) := by decide +kernel
theorem dX8_commitNow_16 : decode cX8_commitNow 16 = .ok (.bipush (-2), 2) := by decide +kernel
theorem dX8_commitNow_18 : decode cX8_commitNow 18 = .ok (.ireturn, 1) := by decide +kernel
theorem dX8_commitNow_19 : decode cX8_commitNow 19 = .ok (.aload_n 0, 1) := by decide +kernel
theorem dX8_commitNow_20 : decode cX8_commitNow 20 = .ok (.getfield 28, 3) := by decide +kernel
theorem dX8_commitNow_23 : decode cX8_commitNow 23 = .ok (.iload_n 1, 1) := by decide +kernel
theorem dX8_commitNow_24 : decode cX8_commitNow 24 = .ok (.iconst 0, 1) := by decide +kernel
theorem dX8_commitNow_25 : decode cX8_commitNow 25 = .ok (.invokestatic 132, 3) := by decide +kernel
theorem dX8_commitNow_28 : decode cX8_commitNow 28 = .ok (.iconst 2, 1) := by decide +kernel
theorem dX8_commitNow_29 : decode cX8_commitNow 29 = .ok (.iastore, 1) := by decide +kernel
theorem dX8_commitNow_30 : decode cX8_commitNow 30 = .ok (.aload_n 0, 1) := by decide +kernel
theorem dX8_commitNow_31 : decode cX8_commitNow 31 = .ok (.iconst 3, 1) := by decide +kernel
theorem dX8_commitNow_32 : decode cX8_commitNow 32 = .ok (.iload_n 1, 1) := by decide +kernel
theorem dX8_commitNow_33 : decode cX8_commitNow 33 = .ok (.aload_n 0, 1) := by decide +kernel
theorem dX8_commitNow_34 : decode cX8_commitNow 34 = .ok (.iload_n 1, 1) := by decide +kernel
theorem dX8_commitNow_35 : decode cX8_commitNow 35 = .ok (.iconst 1, 1) := by decide +kernel
theorem dX8_commitNow_36 : decode cX8_commitNow 36 = .ok (.invokevirtual 165, 3) := by decide +kernel
theorem dX8_commitNow_39 : decode cX8_commitNow 39 = .ok (.invokevirtual 201, 3) := by decide +kernel
theorem dX8_commitNow_42 : decode cX8_commitNow 42 = .ok (.aload_n 0, 1) := by decide +kernel
theorem dX8_commitNow_43 : decode cX8_commitNow 43 = .ok (.iload_n 1, 1) := by decide +kernel
theorem dX8_commitNow_44 : decode cX8_commitNow 44 = .ok (.iconst 3, 1) := by decide +kernel
theorem dX8_commitNow_45 : decode cX8_commitNow 45 = .ok (.invokevirtual 165, 3) := by decide +kernel
theorem dX8_commitNow_48 : decode cX8_commitNow 48 = .ok (.invokestatic 260, 3) := by decide +kernel
theorem dX8_commitNow_51 : decode cX8_commitNow 51 = .ok (.istore_n 2, 1) := by decide +kernel
theorem dX8_commitNow_52 : decode cX8_commitNow 52 = .ok (.iload_n 2, 1) := by decide +kernel
theorem dX8_commitNow_53 : decode cX8_commitNow 53 = .ok (.ifCond .ne 8, 3) := by decide +kernel
theorem dX8_commitNow_56 : decode cX8_commitNow 56 = .ok (.aload_n 0, 1) := by decide +kernel
theorem dX8_commitNow_57 : decode cX8_commitNow 57 = .ok (.iload_n 1, 1) := by decide +kernel
theorem dX8_commitNow_58 : decode cX8_commitNow 58 = .ok (.invokevirtual 263, 3) := by decide +kernel
theorem dX8_commitNow_61 : decode cX8_commitNow 61 = .ok (.iload_n 2, 1) := by decide +kernel
theorem dX8_commitNow_62 : decode cX8_commitNow 62 = .ok (.ireturn, 1) := by decide +kernel
def fM_commitNow (u : Nat) (g : mS) (a1 : Int32) : Option (Int32 × mS) :=
  (fM_of u g a1 (iz 4)).bind fun x1 =>
  if x1 = (iz 1) then
    (fM_fall u g a1).bind fun p10 =>
    some ((iz (-2)), p10.2)
  else
    (fM_ofSeat u a1 (iz 0)).bind fun x2 =>
    (mWr g 7 x2 (iz 2)).bind fun g3 =>
    (fM_of u g3 a1 (iz 1)).bind fun x4 =>
    (fM_note u g3 (iz 3) a1 x4).bind fun g5 =>
    (fM_of u g5 a1 (iz 3)).bind fun x6 =>
    (fM_bits u x6).bind fun x7 =>
    (if x7 = iz 0 then
       (fM_beSure u g5 a1).bind fun g8 =>
       some g8
     else
       some g5 : Option (mS)).bind fun s9 =>
    some (x7, s9)
set_option maxRecDepth 4000 in
theorem jM_commitNow {Γ : nx_G} {M0 : nx_M} {m : Nat} (u : Nat) (g : mS) (a1 : Int32)   (X : nx_X) (Z : nx_Z) : nx_J Γ X (RX8, cX8_commitNow, 3, (some .int), "commitNow", 9) Z (fun r0 : Int32 × mS => .inr (some (.int r0.1), (mW Γ M0 m r0.2))) (.inl (0, [some (.ref m), some (.int a1), none], [], (mW Γ M0 m g))) (fM_commitNow u g a1) := by
  unfold fM_commitNow
  refine nx_aload_n rfl dX8_commitNow_0 rfl ?_
  refine nx_iload_n rfl dX8_commitNow_1 rfl ?_
  refine nx_iconst dX8_commitNow_2 rfl ?_
  refine nx_callVr [.int a1, .int (iz 4)] (fun r => .int r) (fun _ => (mW Γ M0 m g)) cw_8_165 cv_X8_of (fun r e => cM_of X.2.1  e) mW_m rfl rfl (Nat.le_of_ble_eq_true rfl) (Nat.le_of_ble_eq_true rfl) dX8_commitNow_3 rfl (fun x1 => ?_)
  refine nx_iconst dX8_commitNow_6 rfl ?_
  refine nx_icmp_ne (t := 19) dX8_commitNow_7 (by decide) rfl ?_ ?_
  · refine nx_aload_n rfl dX8_commitNow_19 rfl ?_
    refine nx_getf fl_8_28 mW_m rfl dX8_commitNow_20 rfl ?_
    refine nx_iload_n rfl dX8_commitNow_23 rfl ?_
    refine nx_iconst dX8_commitNow_24 rfl ?_
    refine nx_callSr [.int a1, .int (iz 0)] (fun r => .int r) (fun _ => (mW Γ M0 m g)) cw_8_132 wd_1348 (fun r e => cM_ofSeat X.2.1  e) rfl rfl (Nat.le_of_ble_eq_true rfl) (Nat.le_of_ble_eq_true rfl) dX8_commitNow_25 rfl (fun x2 => ?_)
    refine nx_iconst dX8_commitNow_28 rfl ?_
    refine m_iast 7 ⟨Nat.le_of_ble_eq_true rfl, Nat.le_of_ble_eq_true rfl⟩ dX8_commitNow_29 rfl (fun g3 => ?_)
    refine nx_aload_n rfl dX8_commitNow_30 rfl ?_
    refine nx_iconst dX8_commitNow_31 rfl ?_
    refine nx_iload_n rfl dX8_commitNow_32 rfl ?_
    refine nx_aload_n rfl dX8_commitNow_33 rfl ?_
    refine nx_iload_n rfl dX8_commitNow_34 rfl ?_
    refine nx_iconst dX8_commitNow_35 rfl ?_
    refine nx_callVr [.int a1, .int (iz 1)] (fun r => .int r) (fun _ => (mW Γ M0 m g3)) cw_8_165 cv_X8_of (fun r e => cM_of X.2.1  e) mW_m rfl rfl (Nat.le_of_ble_eq_true rfl) (Nat.le_of_ble_eq_true rfl) dX8_commitNow_36 rfl (fun x4 => ?_)
    refine nx_callVv [.int (iz 3), .int a1, .int x4] (fun r => (mW Γ M0 m r)) cw_8_201 cv_X8_note (fun r e => cM_note X.2.1  e) mW_m rfl rfl (Nat.le_of_ble_eq_true rfl) (Nat.le_of_ble_eq_true rfl) dX8_commitNow_39 rfl (fun g5 => ?_)
    refine nx_aload_n rfl dX8_commitNow_42 rfl ?_
    refine nx_iload_n rfl dX8_commitNow_43 rfl ?_
    refine nx_iconst dX8_commitNow_44 rfl ?_
    refine nx_callVr [.int a1, .int (iz 3)] (fun r => .int r) (fun _ => (mW Γ M0 m g5)) cw_8_165 cv_X8_of (fun r e => cM_of X.2.1  e) mW_m rfl rfl (Nat.le_of_ble_eq_true rfl) (Nat.le_of_ble_eq_true rfl) dX8_commitNow_45 rfl (fun x6 => ?_)
    refine nx_callSr [.int x6] (fun r => .int r) (fun _ => (mW Γ M0 m g5)) cw_8_260 wd_1488 (fun r e => cM_bits X.2.1  e) rfl rfl (Nat.le_of_ble_eq_true rfl) (Nat.le_of_ble_eq_true rfl) dX8_commitNow_48 rfl (fun x7 => ?_)
    refine nx_istore_n [some (.ref m), some (.int a1), some (.int x7)] dX8_commitNow_51 rfl (Nat.le_of_ble_eq_true rfl) rfl rfl ?_
    refine nx_iload_n rfl dX8_commitNow_52 rfl ?_
    refine nx_seq (C1 := fun s9 : mS => .inl (61, [some (.ref m), some (.int a1), some (.int x7)], [], (mW Γ M0 m s9))) ?_ (fun s9 => ?_)
    · refine nx_if_ne (t := 61) dX8_commitNow_53 (by decide) rfl ?_ ?_
      · exact nx_leaf rfl
      · refine nx_aload_n rfl dX8_commitNow_56 rfl ?_
        refine nx_iload_n rfl dX8_commitNow_57 rfl ?_
        refine nx_callVv [.int a1] (fun r => (mW Γ M0 m r)) cw_8_263 cv_X8_beSure (fun r e => cM_beSure X.2.1  e) mW_m rfl rfl (Nat.le_of_ble_eq_true rfl) (Nat.le_of_ble_eq_true rfl) dX8_commitNow_58 rfl (fun g8 => ?_)
        exact nx_leaf rfl
    refine nx_iload_n rfl dX8_commitNow_61 rfl ?_
    exact nx_iret dX8_commitNow_62 rfl rfl
  · refine nx_aload_n rfl dX8_commitNow_10 rfl ?_
    refine nx_iload_n rfl dX8_commitNow_11 rfl ?_
    refine nx_callVr [.int a1] (fun r => .int r.1) (fun r => (mW Γ M0 m r.2)) cw_8_223 cv_X8_fall (fun r e => cM_fall X.2.1  e) mW_m rfl rfl (Nat.le_of_ble_eq_true rfl) (Nat.le_of_ble_eq_true rfl) dX8_commitNow_12 rfl (fun p10 => ?_)
    refine nx_pop rfl dX8_commitNow_15 rfl ?_
    refine nx_bipush (by decide +kernel) dX8_commitNow_16 rfl ?_
    exact nx_iret dX8_commitNow_18 rfl rfl
theorem cM_commitNow (l : Launch) {Γ : nx_G} {M0 : nx_M} {m : Nat} {u : Nat} {g : mS} {a1 : Int32} {r : Int32 × mS}  (h : fM_commitNow u g a1 = some r) : nx_Ct l Γ 9 yX8_commitNow cX8_commitNow 3 (some .int) [.ref m, .int a1] (mW Γ M0 m g) (some (.int r.1), (mW Γ M0 m r.2)) :=
  nx_ct (out := fun r0 : Int32 × mS => (some (.int r0.1), (mW Γ M0 m r0.2))) [some (.ref m), some (.int a1), none] pn_RX8 h (Nat.le_of_ble_eq_true rfl) rfl (fun X Z _ => jM_commitNow  u g a1 X Z)
theorem dX8_retryNow_0 : decode cX8_retryNow 0 = .ok (.iconst 0, 1) := by decide +kernel
theorem dX8_retryNow_1 : decode cX8_retryNow 1 = .ok (.istore_n 2, 1) := by decide +kernel
theorem dX8_retryNow_2 : decode cX8_retryNow 2 = .ok (.iload_n 2, 1) := by decide +kernel
theorem dX8_retryNow_3 : decode cX8_retryNow 3 = .ok (.bipush 36, 2) := by decide +kernel
theorem dX8_retryNow_5 : decode cX8_retryNow 5 = .ok (.if_icmp .gt 24, 3) := by decide +kernel
theorem dX8_retryNow_8 : decode cX8_retryNow 8 = .ok (.aload_n 0, 1) := by decide +kernel
theorem dX8_retryNow_9 : decode cX8_retryNow 9 = .ok (.getfield 34, 3) := by decide +kernel
theorem dX8_retryNow_12 : decode cX8_retryNow 12 = .ok (.iload_n 2, 1) := by decide +kernel
theorem dX8_retryNow_13 : decode cX8_retryNow 13 = .ok (.aload_n 0, 1) := by decide +kernel
theorem dX8_retryNow_14 : decode cX8_retryNow 14 = .ok (.iload_n 1, 1) := by decide +kernel
theorem dX8_retryNow_15 : decode cX8_retryNow 15 = .ok (.bipush 11, 2) := by decide +kernel
theorem dX8_retryNow_17 : decode cX8_retryNow 17 = .ok (.iload_n 2, 1) := by decide +kernel
theorem dX8_retryNow_18 : decode cX8_retryNow 18 = .ok (.iadd, 1) := by decide +kernel
theorem dX8_retryNow_19 : decode cX8_retryNow 19 = .ok (.invokevirtual 165, 3) := by decide +kernel
theorem dX8_retryNow_22 : decode cX8_retryNow 22 = .ok (.iastore, 1) := by decide +kernel
theorem dX8_retryNow_23 : decode cX8_retryNow 23 = .ok (.iinc 2 1, 3) := by decide +kernel
theorem dX8_retryNow_26 : decode cX8_retryNow 26 = .ok (.goto (-24), 3) := by decide +kernel
theorem dX8_retryNow_29 : decode cX8_retryNow 29 = .ok (.aload_n 0, 1) := by decide +kernel
theorem dX8_retryNow_30 : decode cX8_retryNow 30 = .ok (.iload_n 1, 1) := by decide +kernel
theorem dX8_retryNow_31 : decode cX8_retryNow 31 = .ok (.aload_n 0, 1) := by decide +kernel
theorem dX8_retryNow_32 : decode cX8_retryNow 32 = .ok (.iload_n 1, 1) := by decide +kernel
theorem dX8_retryNow_33 : decode cX8_retryNow 33 = .ok (.iconst 2, 1) := by decide +kernel
theorem dX8_retryNow_34 : decode cX8_retryNow 34 = .ok (.invokevirtual 165, 3) := by decide +kernel
theorem dX8_retryNow_37 : decode cX8_retryNow 37 = .ok (.invokevirtual 266, 3) := by decide +kernel
theorem dX8_retryNow_40 : decode cX8_retryNow 40 = .ok (.pop, 1) := by decide +kernel
theorem dX8_retryNow_41 : decode cX8_retryNow 41 = .ok (.iconst 0, 1) := by decide +kernel
theorem dX8_retryNow_42 : decode cX8_retryNow 42 = .ok (.istore_n 2, 1) := by decide +kernel
theorem dX8_retryNow_43 : decode cX8_retryNow 43 = .ok (.iconst 1, 1) := by decide +kernel
theorem dX8_retryNow_44 : decode cX8_retryNow 44 = .ok (.istore_n 3, 1) := by decide +kernel
theorem dX8_retryNow_45 : decode cX8_retryNow 45 = .ok (.iload_n 3, 1) := by decide +kernel
theorem dX8_retryNow_46 : decode cX8_retryNow 46 = .ok (.ifCond .eq 103, 3) := by decide +kernel
theorem dX8_retryNow_49 : decode cX8_retryNow 49 = .ok (.iload_n 2, 1) := by decide +kernel
theorem dX8_retryNow_50 : decode cX8_retryNow 50 = .ok (.aload_n 0, 1) := by decide +kernel
theorem dX8_retryNow_51 : decode cX8_retryNow 51 = .ok (.getfield 34, 3) := by decide +kernel
theorem dX8_retryNow_54 : decode cX8_retryNow 54 = .ok (.iconst 0, 1) := by decide +kernel
theorem dX8_retryNow_55 : decode cX8_retryNow 55 = .ok (.iaload, 1) := by decide +kernel
theorem dX8_retryNow_56 : decode cX8_retryNow 56 = .ok (.if_icmp .ge 93, 3) := by decide +kernel
theorem dX8_retryNow_59 : decode cX8_retryNow 59 = .ok (.aload_n 0, 1) := by decide +kernel
theorem dX8_retryNow_60 : decode cX8_retryNow 60 = .ok (.getfield 34, 3) := by decide +kernel
theorem dX8_retryNow_63 : decode cX8_retryNow 63 = .ok (.iconst 2, 1) := by decide +kernel
theorem dX8_retryNow_64 : decode cX8_retryNow 64 = .ok (.iconst 3, 1) := by decide +kernel
theorem dX8_retryNow_65 : decode cX8_retryNow 65 = .ok (.iload_n 2, 1) := by decide +kernel
theorem dX8_retryNow_66 : decode cX8_retryNow 66 = .ok (.imul, 1) := by decide +kernel
theorem dX8_retryNow_67 : decode cX8_retryNow 67 = .ok (.iadd, 1) := by decide +kernel
theorem dX8_retryNow_68 : decode cX8_retryNow 68 = .ok (.iaload, 1) := by decide +kernel
theorem dX8_retryNow_69 : decode cX8_retryNow 69 = .ok (.istore 4, 2) := by decide +kernel
theorem dX8_retryNow_71 : decode cX8_retryNow 71 = .ok (.aload_n 0, 1) := by decide +kernel
theorem dX8_retryNow_72 : decode cX8_retryNow 72 = .ok (.getfield 34, 3) := by decide +kernel
theorem dX8_retryNow_75 : decode cX8_retryNow 75 = .ok (.iconst 1, 1) := by decide +kernel
theorem dX8_retryNow_76 : decode cX8_retryNow 76 = .ok (.iconst 3, 1) := by decide +kernel
theorem dX8_retryNow_77 : decode cX8_retryNow 77 = .ok (.iload_n 2, 1) := by decide +kernel
theorem dX8_retryNow_78 : decode cX8_retryNow 78 = .ok (.imul, 1) := by decide +kernel
theorem dX8_retryNow_79 : decode cX8_retryNow 79 = .ok (.iadd, 1) := by decide +kernel
theorem dX8_retryNow_80 : decode cX8_retryNow 80 = .ok (.iaload, 1) := by decide +kernel
theorem dX8_retryNow_81 : decode cX8_retryNow 81 = .ok (.iconst 1, 1) := by decide +kernel
theorem dX8_retryNow_82 : decode cX8_retryNow 82 = .ok (.if_icmp .ne 14, 3) := by decide +kernel
theorem dX8_retryNow_85 : decode cX8_retryNow 85 = .ok (.aload_n 0, 1) := by decide +kernel
theorem dX8_retryNow_86 : decode cX8_retryNow 86 = .ok (.iload_n 1, 1) := by decide +kernel
theorem dX8_retryNow_87 : decode cX8_retryNow 87 = .ok (.iload 4, 2) := by decide +kernel
theorem dX8_retryNow_89 : decode cX8_retryNow 89 = .ok (.invokevirtual 269, 3) := by decide +kernel
theorem dX8_retryNow_92 : decode cX8_retryNow 92 = .ok (.pop, 1) := by decide +kernel
theorem dX8_retryNow_93 : decode cX8_retryNow 93 = .ok (.goto 41, 3) := by decide +kernel
theorem dX8_retryNow_96 : decode cX8_retryNow 96 = .ok (.aload_n 0, 1) := by decide +kernel
theorem dX8_retryNow_97 : decode cX8_retryNow 97 = .ok (.iload_n 1, 1) := by decide +kernel
theorem dX8_retryNow_98 : decode cX8_retryNow 98 = .ok (.iload 4, 2) := by decide +kernel
theorem dX8_retryNow_100 : decode cX8_retryNow 100 = .ok (.invokevirtual 241, 3) := by decide +kernel
theorem dX8_retryNow_103 : decode cX8_retryNow 103 = .ok (.ifCond .ne 29, 3) := by decide +kernel
theorem dX8_retryNow_106 : decode cX8_retryNow 106 = .ok (.aload_n 0, 1) := by decide +kernel
theorem dX8_retryNow_107 : decode cX8_retryNow 107 = .ok (.iload_n 1, 1) := by decide +kernel
theorem dX8_retryNow_108 : decode cX8_retryNow 108 = .ok (.iload 4, 2) := by decide +kernel
theorem dX8_retryNow_110 : decode cX8_retryNow 110 = .ok (.aload_n 0, 1) := by decide +kernel
theorem dX8_retryNow_111 : decode cX8_retryNow 111 = .ok (.getfield 34, 3) := by decide +kernel
theorem dX8_retryNow_114 : decode cX8_retryNow 114 = .ok (.iconst 3, 1) := by decide +kernel
theorem dX8_retryNow_115 : decode cX8_retryNow 115 = .ok (.iconst 3, 1) := by decide +kernel
theorem dX8_retryNow_116 : decode cX8_retryNow 116 = .ok (.iload_n 2, 1) := by decide +kernel
theorem dX8_retryNow_117 : decode cX8_retryNow 117 = .ok (.imul, 1) := by decide +kernel
theorem dX8_retryNow_118 : decode cX8_retryNow 118 = .ok (.iadd, 1) := by decide +kernel
theorem dX8_retryNow_119 : decode cX8_retryNow 119 = .ok (.iaload, 1) := by decide +kernel
theorem dX8_retryNow_120 : decode cX8_retryNow 120 = .ok (.invokevirtual 272, 3) := by decide +kernel
theorem dX8_retryNow_123 : decode cX8_retryNow 123 = .ok (.bipush (-2), 2) := by decide +kernel
theorem dX8_retryNow_125 : decode cX8_retryNow 125 = .ok (.if_icmp .eq 7, 3) := by decide +kernel
theorem dX8_retryNow_128 : decode cX8_retryNow 128 = .ok (.iconst 1, 1) := by decide +kernel
theorem dX8_retryNow_129 : decode cX8_retryNow 129 = .ok (.goto 4, 3) := by decide +kernel
theorem dX8_retryNow_132 : decode cX8_retryNow 132 = .ok (.iconst 0, 1) := by decide +kernel
theorem dX8_retryNow_133 : decode cX8_retryNow 133 = .ok (.istore_n 3, 1) := by decide +kernel
theorem dX8_retryNow_134 : decode cX8_retryNow 134 = .ok (.iload_n 2, 1) := by decide +kernel
theorem dX8_retryNow_135 : decode cX8_retryNow 135 = .ok (.iload_n 3, 1) := by decide +kernel
theorem dX8_retryNow_136 : decode cX8_retryNow 136 = .ok (.ifCond .eq 7, 3) := by decide +kernel
theorem dX8_retryNow_139 : decode cX8_retryNow 139 = .ok (.iconst 1, 1) := by decide +kernel
theorem dX8_retryNow_140 : decode cX8_retryNow 140 = .ok (.goto 4, 3) := by decide +kernel
theorem dX8_retryNow_143 : decode cX8_retryNow 143 = .ok (.iconst 0, 1) := by decide +kernel
theorem dX8_retryNow_144 : decode cX8_retryNow 144 = .ok (.iadd, 1) := by decide +kernel
theorem dX8_retryNow_145 : decode cX8_retryNow 145 = .ok (.istore_n 2, 1) := by decide +kernel
theorem dX8_retryNow_146 : decode cX8_retryNow 146 = .ok (.goto (-101), 3) := by decide +kernel
theorem dX8_retryNow_149 : decode cX8_retryNow 149 = .ok (.iconst 0, 1) := by decide +kernel
theorem dX8_retryNow_150 : decode cX8_retryNow 150 = .ok (.istore 4, 2) := by decide +kernel
theorem dX8_retryNow_152 : decode cX8_retryNow 152 = .ok (.iload 4, 2) := by decide +kernel
theorem dX8_retryNow_154 : decode cX8_retryNow 154 = .ok (.bipush 36, 2) := by decide +kernel
theorem dX8_retryNow_156 : decode cX8_retryNow 156 = .ok (.if_icmp .gt 30, 3) := by decide +kernel
theorem dX8_retryNow_159 : decode cX8_retryNow 159 = .ok (.aload_n 0, 1) := by decide +kernel
theorem dX8_retryNow_160 : decode cX8_retryNow 160 = .ok (.getfield 28, 3) := by decide +kernel
theorem dX8_retryNow_163 : decode cX8_retryNow 163 = .ok (.iload_n 1, 1) := by decide +kernel
theorem dX8_retryNow_164 : decode cX8_retryNow 164 = .ok (.bipush 11, 2) := by decide +kernel
theorem dX8_retryNow_166 : decode cX8_retryNow 166 = .ok (.iload 4, 2) := by decide +kernel
theorem dX8_retryNow_168 : decode cX8_retryNow 168 = .ok (.iadd, 1) := by decide +kernel
theorem dX8_retryNow_169 : decode cX8_retryNow 169 = .ok (.invokestatic 132, 3) := by decide +kernel
theorem dX8_retryNow_172 : decode cX8_retryNow 172 = .ok (.aload_n 0, 1) := by decide +kernel
theorem dX8_retryNow_173 : decode cX8_retryNow 173 = .ok (.getfield 34, 3) := by decide +kernel
theorem dX8_retryNow_176 : decode cX8_retryNow 176 = .ok (.iload 4, 2) := by decide +kernel
theorem dX8_retryNow_178 : decode cX8_retryNow 178 = .ok (.iaload, 1) := by decide +kernel
theorem dX8_retryNow_179 : decode cX8_retryNow 179 = .ok (.iastore, 1) := by decide +kernel
theorem dX8_retryNow_180 : decode cX8_retryNow 180 = .ok (.iinc 4 1, 3) := by decide +kernel
theorem dX8_retryNow_183 : decode cX8_retryNow 183 = .ok (.goto (-31), 3) := by decide +kernel
theorem dX8_retryNow_186 : decode cX8_retryNow 186 = .ok (.iload_n 2, 1) := by decide +kernel
theorem dX8_retryNow_187 : decode cX8_retryNow 187 = .ok (.ireturn, 1) := by decide +kernel
def fM_retryNow_2 (u : Nat) (a1 : Int32) (s1 : Int32 × mS) : Option ((Int32 × mS) ⊕ (mS)) :=
  if (iz 36) < s1.1 then
    some (.inr s1.2)
  else
    (fM_of u s1.2 a1 ((iz 11) + s1.1)).bind fun x2 =>
    (mWr s1.2 9 s1.1 x2).bind fun g3 =>
    some (.inl ((s1.1 + iz 1), g3))
def fM_retryNow_45 (u : Nat) (a1 : Int32) (s7 : Int32 × Int32 × mS) : Option ((Int32 × Int32 × mS) ⊕ (Int32 × mS)) :=
  if s7.2.1 = iz 0 then
    some (.inr (s7.1, s7.2.2))
  else
    (nx_rd (mlen 9) (s7.2.2.1 9) (iz 0)).bind fun x8 =>
    if x8 ≤ s7.1 then
      some (.inr (s7.1, s7.2.2))
    else
      (nx_rd (mlen 9) (s7.2.2.1 9) ((iz 2) + ((iz 3) * s7.1))).bind fun x9 =>
      (nx_rd (mlen 9) (s7.2.2.1 9) ((iz 1) + ((iz 3) * s7.1))).bind fun x10 =>
      (if x10 = (iz 1) then
         (fM_readNow u s7.2.2 a1 x9).bind fun p15 =>
         some (s7.2.1, p15.2)
       else
         (fM_isFull u s7.2.2 a1 x9).bind fun b11 =>
         (if b11 = true then
            some ((iz 0), s7.2.2)
          else
            (nx_rd (mlen 9) (s7.2.2.1 9) ((iz 3) + ((iz 3) * s7.1))).bind fun x12 =>
            (fM_writeNow u s7.2.2 a1 x9 x12).bind fun p13 =>
            if p13.1 = (iz (-2)) then
              some ((iz 0), p13.2)
            else
              some ((iz 1), p13.2) : Option (Int32 × mS)).bind fun s14 =>
         some (s14.1, s14.2) : Option (Int32 × mS)).bind fun s16 =>
      (if s16.1 = iz 0 then
         some (iz 0)
       else
         some (iz 1) : Option (Int32)).bind fun s17 =>
      some (.inl ((s7.1 + s17), s16.1, s16.2))
def fM_retryNow_152 (u : Nat) (a1 : Int32) (s19 : Int32 × mS) : Option ((Int32 × mS) ⊕ (mS)) :=
  if (iz 36) < s19.1 then
    some (.inr s19.2)
  else
    (fM_ofSeat u a1 ((iz 11) + s19.1)).bind fun x20 =>
    (nx_rd (mlen 9) (s19.2.1 9) s19.1).bind fun x21 =>
    (mWr s19.2 7 x20 x21).bind fun g22 =>
    some (.inl ((s19.1 + iz 1), g22))
def fM_retryNow (u : Nat) (g : mS) (a1 : Int32) : Option (Int32 × mS) :=
  (nx_iter u (fM_retryNow_2 u a1) ((iz 0), g)).bind fun e4 =>
  (fM_of u e4 a1 (iz 2)).bind fun x5 =>
  (fM_openNow u e4 a1 x5).bind fun p6 =>
  (nx_iter u (fM_retryNow_45 u a1) ((iz 0), (iz 1), p6.2)).bind fun e18 =>
  (nx_iter u (fM_retryNow_152 u a1) ((iz 0), e18.2)).bind fun e23 =>
  some (e18.1, e23)
set_option maxRecDepth 4000 in
theorem jM_retryNow_2 {Γ : nx_G} {M0 : nx_M} {m : Nat} (u : Nat) (a1 : Int32)   (X : nx_X) (Z : nx_Z) (s1 : Int32 × mS) : nx_J Γ X (RX8, cX8_retryNow, 5, (some .int), "retryNow", 7) Z (Sum.elim (fun s1 : Int32 × mS => .inl (2, [some (.ref m), some (.int a1), some (.int s1.1), none, none], [], (mW Γ M0 m s1.2))) (fun e4 : mS => .inl (29, [some (.ref m), some (.int a1), none, none, none], [], (mW Γ M0 m e4)))) (.inl (2, [some (.ref m), some (.int a1), some (.int s1.1), none, none], [], (mW Γ M0 m s1.2))) (fM_retryNow_2 u a1 s1) := by
  unfold fM_retryNow_2
  refine nx_iload_n rfl dX8_retryNow_2 rfl ?_
  refine nx_bipush (by decide +kernel) dX8_retryNow_3 rfl ?_
  refine nx_icmp_gt (t := 29) dX8_retryNow_5 (by decide) rfl ?_ ?_
  · refine nx_weak (ls' := [some (.ref m), some (.int a1), none, none, none]) (nx_wk_s (nx_wk_s (nx_wk_n (nx_wk_n (nx_wk_n nx_wk_e))))) ?_
    obtain ⟨_, _⟩ := s1
    exact nx_leaf rfl
  · refine nx_aload_n rfl dX8_retryNow_8 rfl ?_
    refine nx_getf fl_8_34 mW_m rfl dX8_retryNow_9 rfl ?_
    refine nx_iload_n rfl dX8_retryNow_12 rfl ?_
    refine nx_aload_n rfl dX8_retryNow_13 rfl ?_
    refine nx_iload_n rfl dX8_retryNow_14 rfl ?_
    refine nx_bipush (by decide +kernel) dX8_retryNow_15 rfl ?_
    refine nx_iload_n rfl dX8_retryNow_17 rfl ?_
    refine nx_iadd dX8_retryNow_18 rfl ?_
    refine nx_callVr [.int a1, .int ((iz 11) + s1.1)] (fun r => .int r) (fun _ => (mW Γ M0 m s1.2)) cw_8_165 cv_X8_of (fun r e => cM_of X.2.1  e) mW_m rfl rfl (Nat.le_of_ble_eq_true rfl) (Nat.le_of_ble_eq_true rfl) dX8_retryNow_19 rfl (fun x2 => ?_)
    refine m_iast 9 ⟨Nat.le_of_ble_eq_true rfl, Nat.le_of_ble_eq_true rfl⟩ dX8_retryNow_22 rfl (fun g3 => ?_)
    refine nx_iinc [some (.ref m), some (.int a1), some (.int (s1.1 + iz 1)), none, none] dX8_retryNow_23 rfl rfl (Nat.le_of_ble_eq_true rfl) rfl rfl ?_
    refine nx_goto (q := 2) dX8_retryNow_26 (by decide) ?_
    obtain ⟨_, _⟩ := s1
    exact nx_leaf rfl
set_option maxRecDepth 4000 in
theorem jM_retryNow_45 {Γ : nx_G} {M0 : nx_M} {m : Nat} (u : Nat) (a1 : Int32)   (X : nx_X) (Z : nx_Z) (s7 : Int32 × Int32 × mS) : nx_J Γ X (RX8, cX8_retryNow, 5, (some .int), "retryNow", 7) Z (Sum.elim (fun s7 : Int32 × Int32 × mS => .inl (45, [some (.ref m), some (.int a1), some (.int s7.1), some (.int s7.2.1), none], [], (mW Γ M0 m s7.2.2))) (fun e18 : Int32 × mS => .inl (149, [some (.ref m), some (.int a1), some (.int e18.1), none, none], [], (mW Γ M0 m e18.2)))) (.inl (45, [some (.ref m), some (.int a1), some (.int s7.1), some (.int s7.2.1), none], [], (mW Γ M0 m s7.2.2))) (fM_retryNow_45 u a1 s7) := by
  unfold fM_retryNow_45
  refine nx_iload_n rfl dX8_retryNow_45 rfl ?_
  refine nx_if_eq (t := 149) dX8_retryNow_46 (by decide) rfl ?_ ?_
  · refine nx_weak (ls' := [some (.ref m), some (.int a1), some (.int s7.1), none, none]) (nx_wk_s (nx_wk_s (nx_wk_s (nx_wk_n (nx_wk_n nx_wk_e))))) ?_
    obtain ⟨_, _, _⟩ := s7
    exact nx_leaf rfl
  · refine nx_iload_n rfl dX8_retryNow_49 rfl ?_
    refine nx_aload_n rfl dX8_retryNow_50 rfl ?_
    refine nx_getf fl_8_34 mW_m rfl dX8_retryNow_51 rfl ?_
    refine nx_iconst dX8_retryNow_54 rfl ?_
    refine m_iald 9 ⟨Nat.le_of_ble_eq_true rfl, Nat.le_of_ble_eq_true rfl⟩ dX8_retryNow_55 rfl (fun x8 => ?_)
    refine nx_icmp_ge (t := 149) dX8_retryNow_56 (by decide) rfl ?_ ?_
    · refine nx_weak (ls' := [some (.ref m), some (.int a1), some (.int s7.1), none, none]) (nx_wk_s (nx_wk_s (nx_wk_s (nx_wk_n (nx_wk_n nx_wk_e))))) ?_
      obtain ⟨_, _, _⟩ := s7
      exact nx_leaf rfl
    · refine nx_aload_n rfl dX8_retryNow_59 rfl ?_
      refine nx_getf fl_8_34 mW_m rfl dX8_retryNow_60 rfl ?_
      refine nx_iconst dX8_retryNow_63 rfl ?_
      refine nx_iconst dX8_retryNow_64 rfl ?_
      refine nx_iload_n rfl dX8_retryNow_65 rfl ?_
      refine nx_imul dX8_retryNow_66 rfl ?_
      refine nx_iadd dX8_retryNow_67 rfl ?_
      refine m_iald 9 ⟨Nat.le_of_ble_eq_true rfl, Nat.le_of_ble_eq_true rfl⟩ dX8_retryNow_68 rfl (fun x9 => ?_)
      refine nx_istore [some (.ref m), some (.int a1), some (.int s7.1), some (.int s7.2.1), some (.int x9)] dX8_retryNow_69 rfl (Nat.le_of_ble_eq_true rfl) rfl rfl ?_
      refine nx_aload_n rfl dX8_retryNow_71 rfl ?_
      refine nx_getf fl_8_34 mW_m rfl dX8_retryNow_72 rfl ?_
      refine nx_iconst dX8_retryNow_75 rfl ?_
      refine nx_iconst dX8_retryNow_76 rfl ?_
      refine nx_iload_n rfl dX8_retryNow_77 rfl ?_
      refine nx_imul dX8_retryNow_78 rfl ?_
      refine nx_iadd dX8_retryNow_79 rfl ?_
      refine m_iald 9 ⟨Nat.le_of_ble_eq_true rfl, Nat.le_of_ble_eq_true rfl⟩ dX8_retryNow_80 rfl (fun x10 => ?_)
      refine nx_iconst dX8_retryNow_81 rfl ?_
      refine nx_seq (C1 := fun s16 : Int32 × mS => .inl (134, [some (.ref m), some (.int a1), some (.int s7.1), some (.int s16.1), some (.int x9)], [], (mW Γ M0 m s16.2))) ?_ (fun s16 => ?_)
      · refine nx_icmp_ne (t := 96) dX8_retryNow_82 (by decide) rfl ?_ ?_
        · refine nx_aload_n rfl dX8_retryNow_96 rfl ?_
          refine nx_iload_n rfl dX8_retryNow_97 rfl ?_
          refine nx_iload rfl dX8_retryNow_98 rfl ?_
          refine nx_callVr [.int a1, .int x9] (fun r => .int (bz r)) (fun _ => (mW Γ M0 m s7.2.2)) cw_8_241 cv_X8_isFull (fun r e => cM_isFull X.2.1  e) mW_m rfl rfl (Nat.le_of_ble_eq_true rfl) (Nat.le_of_ble_eq_true rfl) dX8_retryNow_100 rfl (fun b11 => ?_)
          refine nx_seq (C1 := fun s14 : Int32 × mS => .inl (133, [some (.ref m), some (.int a1), some (.int s7.1), some (.int s7.2.1), some (.int x9)], [.int s14.1], (mW Γ M0 m s14.2))) ?_ (fun s14 => ?_)
          · refine nx_ifz_ne (t := 132) dX8_retryNow_103 (by decide) rfl ?_ ?_
            · refine nx_iconst dX8_retryNow_132 rfl ?_
              obtain ⟨_, _, _⟩ := s7
              exact nx_leaf rfl
            · refine nx_aload_n rfl dX8_retryNow_106 rfl ?_
              refine nx_iload_n rfl dX8_retryNow_107 rfl ?_
              refine nx_iload rfl dX8_retryNow_108 rfl ?_
              refine nx_aload_n rfl dX8_retryNow_110 rfl ?_
              refine nx_getf fl_8_34 mW_m rfl dX8_retryNow_111 rfl ?_
              refine nx_iconst dX8_retryNow_114 rfl ?_
              refine nx_iconst dX8_retryNow_115 rfl ?_
              refine nx_iload_n rfl dX8_retryNow_116 rfl ?_
              refine nx_imul dX8_retryNow_117 rfl ?_
              refine nx_iadd dX8_retryNow_118 rfl ?_
              refine m_iald 9 ⟨Nat.le_of_ble_eq_true rfl, Nat.le_of_ble_eq_true rfl⟩ dX8_retryNow_119 rfl (fun x12 => ?_)
              refine nx_callVr [.int a1, .int x9, .int x12] (fun r => .int r.1) (fun r => (mW Γ M0 m r.2)) cw_8_272 cv_X8_writeNow (fun r e => cM_writeNow X.2.1  e) mW_m rfl rfl (Nat.le_of_ble_eq_true rfl) (Nat.le_of_ble_eq_true rfl) dX8_retryNow_120 rfl (fun p13 => ?_)
              refine nx_bipush (by decide +kernel) dX8_retryNow_123 rfl ?_
              refine nx_icmp_eq (t := 132) dX8_retryNow_125 (by decide) rfl ?_ ?_
              · refine nx_iconst dX8_retryNow_132 rfl ?_
                obtain ⟨_, _, _⟩ := s7
                obtain ⟨_, _⟩ := p13
                exact nx_leaf rfl
              · refine nx_iconst dX8_retryNow_128 rfl ?_
                refine nx_goto (q := 133) dX8_retryNow_129 (by decide) ?_
                obtain ⟨_, _, _⟩ := s7
                obtain ⟨_, _⟩ := p13
                exact nx_leaf rfl
          refine nx_istore_n [some (.ref m), some (.int a1), some (.int s7.1), some (.int s14.1), some (.int x9)] dX8_retryNow_133 rfl (Nat.le_of_ble_eq_true rfl) rfl rfl ?_
          obtain ⟨_, _, _⟩ := s7
          obtain ⟨_, _⟩ := s14
          exact nx_leaf rfl
        · refine nx_aload_n rfl dX8_retryNow_85 rfl ?_
          refine nx_iload_n rfl dX8_retryNow_86 rfl ?_
          refine nx_iload rfl dX8_retryNow_87 rfl ?_
          refine nx_callVr [.int a1, .int x9] (fun r => .int r.1) (fun r => (mW Γ M0 m r.2)) cw_8_269 cv_X8_readNow (fun r e => cM_readNow X.2.1  e) mW_m rfl rfl (Nat.le_of_ble_eq_true rfl) (Nat.le_of_ble_eq_true rfl) dX8_retryNow_89 rfl (fun p15 => ?_)
          refine nx_pop rfl dX8_retryNow_92 rfl ?_
          refine nx_goto (q := 134) dX8_retryNow_93 (by decide) ?_
          obtain ⟨_, _, _⟩ := s7
          obtain ⟨_, _⟩ := p15
          exact nx_leaf rfl
      refine nx_iload_n rfl dX8_retryNow_134 rfl ?_
      refine nx_iload_n rfl dX8_retryNow_135 rfl ?_
      refine nx_seq (C1 := fun s17 : Int32 => .inl (144, [some (.ref m), some (.int a1), some (.int s7.1), some (.int s16.1), some (.int x9)], [.int s17, .int s7.1], (mW Γ M0 m s16.2))) ?_ (fun s17 => ?_)
      · refine nx_if_eq (t := 143) dX8_retryNow_136 (by decide) rfl ?_ ?_
        · refine nx_iconst dX8_retryNow_143 rfl ?_
          obtain ⟨_, _, _⟩ := s7
          obtain ⟨_, _⟩ := s16
          exact nx_leaf rfl
        · refine nx_iconst dX8_retryNow_139 rfl ?_
          refine nx_goto (q := 144) dX8_retryNow_140 (by decide) ?_
          obtain ⟨_, _, _⟩ := s7
          obtain ⟨_, _⟩ := s16
          exact nx_leaf rfl
      refine nx_iadd dX8_retryNow_144 rfl ?_
      refine nx_istore_n [some (.ref m), some (.int a1), some (.int (s7.1 + s17)), some (.int s16.1), some (.int x9)] dX8_retryNow_145 rfl (Nat.le_of_ble_eq_true rfl) rfl rfl ?_
      refine nx_goto (q := 45) dX8_retryNow_146 (by decide) ?_
      refine nx_weak (ls' := [some (.ref m), some (.int a1), some (.int (s7.1 + s17)), some (.int s16.1), none]) (nx_wk_s (nx_wk_s (nx_wk_s (nx_wk_s (nx_wk_n nx_wk_e))))) ?_
      obtain ⟨_, _, _⟩ := s7
      obtain ⟨_, _⟩ := s16
      exact nx_leaf rfl
set_option maxRecDepth 4000 in
theorem jM_retryNow_152 {Γ : nx_G} {M0 : nx_M} {m : Nat} (u : Nat) (a1 : Int32) (e18 : Int32 × mS)   (X : nx_X) (Z : nx_Z) (s19 : Int32 × mS) : nx_J Γ X (RX8, cX8_retryNow, 5, (some .int), "retryNow", 7) Z (Sum.elim (fun s19 : Int32 × mS => .inl (152, [some (.ref m), some (.int a1), some (.int e18.1), none, some (.int s19.1)], [], (mW Γ M0 m s19.2))) (fun e23 : mS => .inl (186, [some (.ref m), some (.int a1), some (.int e18.1), none, none], [], (mW Γ M0 m e23)))) (.inl (152, [some (.ref m), some (.int a1), some (.int e18.1), none, some (.int s19.1)], [], (mW Γ M0 m s19.2))) (fM_retryNow_152 u a1 s19) := by
  unfold fM_retryNow_152
  refine nx_iload rfl dX8_retryNow_152 rfl ?_
  refine nx_bipush (by decide +kernel) dX8_retryNow_154 rfl ?_
  refine nx_icmp_gt (t := 186) dX8_retryNow_156 (by decide) rfl ?_ ?_
  · refine nx_weak (ls' := [some (.ref m), some (.int a1), some (.int e18.1), none, none]) (nx_wk_s (nx_wk_s (nx_wk_s (nx_wk_n (nx_wk_n nx_wk_e))))) ?_
    obtain ⟨_, _⟩ := e18
    obtain ⟨_, _⟩ := s19
    exact nx_leaf rfl
  · refine nx_aload_n rfl dX8_retryNow_159 rfl ?_
    refine nx_getf fl_8_28 mW_m rfl dX8_retryNow_160 rfl ?_
    refine nx_iload_n rfl dX8_retryNow_163 rfl ?_
    refine nx_bipush (by decide +kernel) dX8_retryNow_164 rfl ?_
    refine nx_iload rfl dX8_retryNow_166 rfl ?_
    refine nx_iadd dX8_retryNow_168 rfl ?_
    refine nx_callSr [.int a1, .int ((iz 11) + s19.1)] (fun r => .int r) (fun _ => (mW Γ M0 m s19.2)) cw_8_132 wd_1348 (fun r e => cM_ofSeat X.2.1  e) rfl rfl (Nat.le_of_ble_eq_true rfl) (Nat.le_of_ble_eq_true rfl) dX8_retryNow_169 rfl (fun x20 => ?_)
    refine nx_aload_n rfl dX8_retryNow_172 rfl ?_
    refine nx_getf fl_8_34 mW_m rfl dX8_retryNow_173 rfl ?_
    refine nx_iload rfl dX8_retryNow_176 rfl ?_
    refine m_iald 9 ⟨Nat.le_of_ble_eq_true rfl, Nat.le_of_ble_eq_true rfl⟩ dX8_retryNow_178 rfl (fun x21 => ?_)
    refine m_iast 7 ⟨Nat.le_of_ble_eq_true rfl, Nat.le_of_ble_eq_true rfl⟩ dX8_retryNow_179 rfl (fun g22 => ?_)
    refine nx_iinc [some (.ref m), some (.int a1), some (.int e18.1), none, some (.int (s19.1 + iz 1))] dX8_retryNow_180 rfl rfl (Nat.le_of_ble_eq_true rfl) rfl rfl ?_
    refine nx_goto (q := 152) dX8_retryNow_183 (by decide) ?_
    obtain ⟨_, _⟩ := e18
    obtain ⟨_, _⟩ := s19
    exact nx_leaf rfl
set_option maxRecDepth 4000 in
theorem jM_retryNow {Γ : nx_G} {M0 : nx_M} {m : Nat} (u : Nat) (g : mS) (a1 : Int32)   (X : nx_X) (Z : nx_Z) : nx_J Γ X (RX8, cX8_retryNow, 5, (some .int), "retryNow", 7) Z (fun r0 : Int32 × mS => .inr (some (.int r0.1), (mW Γ M0 m r0.2))) (.inl (0, [some (.ref m), some (.int a1), none, none, none], [], (mW Γ M0 m g))) (fM_retryNow u g a1) := by
  unfold fM_retryNow
  refine nx_iconst dX8_retryNow_0 rfl ?_
  refine nx_istore_n [some (.ref m), some (.int a1), some (.int (iz 0)), none, none] dX8_retryNow_1 rfl (Nat.le_of_ble_eq_true rfl) rfl rfl ?_
  refine nx_seq (C1 := fun e4 : mS => .inl (29, [some (.ref m), some (.int a1), none, none, none], [], (mW Γ M0 m e4))) (nx_loop (C1 := fun s1 : Int32 × mS => .inl (2, [some (.ref m), some (.int a1), some (.int s1.1), none, none], [], (mW Γ M0 m s1.2))) (fun s1 => jM_retryNow_2  u a1 X Z s1) ((iz 0), g)) (fun e4 => ?_)
  refine nx_aload_n rfl dX8_retryNow_29 rfl ?_
  refine nx_iload_n rfl dX8_retryNow_30 rfl ?_
  refine nx_aload_n rfl dX8_retryNow_31 rfl ?_
  refine nx_iload_n rfl dX8_retryNow_32 rfl ?_
  refine nx_iconst dX8_retryNow_33 rfl ?_
  refine nx_callVr [.int a1, .int (iz 2)] (fun r => .int r) (fun _ => (mW Γ M0 m e4)) cw_8_165 cv_X8_of (fun r e => cM_of X.2.1  e) mW_m rfl rfl (Nat.le_of_ble_eq_true rfl) (Nat.le_of_ble_eq_true rfl) dX8_retryNow_34 rfl (fun x5 => ?_)
  refine nx_callVr [.int a1, .int x5] (fun r => .int r.1) (fun r => (mW Γ M0 m r.2)) cw_8_266 cv_X8_openNow (fun r e => cM_openNow X.2.1  e) mW_m rfl rfl (Nat.le_of_ble_eq_true rfl) (Nat.le_of_ble_eq_true rfl) dX8_retryNow_37 rfl (fun p6 => ?_)
  refine nx_pop rfl dX8_retryNow_40 rfl ?_
  refine nx_iconst dX8_retryNow_41 rfl ?_
  refine nx_istore_n [some (.ref m), some (.int a1), some (.int (iz 0)), none, none] dX8_retryNow_42 rfl (Nat.le_of_ble_eq_true rfl) rfl rfl ?_
  refine nx_iconst dX8_retryNow_43 rfl ?_
  refine nx_istore_n [some (.ref m), some (.int a1), some (.int (iz 0)), some (.int (iz 1)), none] dX8_retryNow_44 rfl (Nat.le_of_ble_eq_true rfl) rfl rfl ?_
  refine nx_seq (C1 := fun e18 : Int32 × mS => .inl (149, [some (.ref m), some (.int a1), some (.int e18.1), none, none], [], (mW Γ M0 m e18.2))) (nx_loop (C1 := fun s7 : Int32 × Int32 × mS => .inl (45, [some (.ref m), some (.int a1), some (.int s7.1), some (.int s7.2.1), none], [], (mW Γ M0 m s7.2.2))) (fun s7 => jM_retryNow_45  u a1 X Z s7) ((iz 0), (iz 1), p6.2)) (fun e18 => ?_)
  refine nx_iconst dX8_retryNow_149 rfl ?_
  refine nx_istore [some (.ref m), some (.int a1), some (.int e18.1), none, some (.int (iz 0))] dX8_retryNow_150 rfl (Nat.le_of_ble_eq_true rfl) rfl rfl ?_
  refine nx_seq (C1 := fun e23 : mS => .inl (186, [some (.ref m), some (.int a1), some (.int e18.1), none, none], [], (mW Γ M0 m e23))) (nx_loop (C1 := fun s19 : Int32 × mS => .inl (152, [some (.ref m), some (.int a1), some (.int e18.1), none, some (.int s19.1)], [], (mW Γ M0 m s19.2))) (fun s19 => jM_retryNow_152  u a1 e18 X Z s19) ((iz 0), e18.2)) (fun e23 => ?_)
  refine nx_iload_n rfl dX8_retryNow_186 rfl ?_
  exact nx_iret dX8_retryNow_187 rfl rfl
theorem cM_retryNow (l : Launch) {Γ : nx_G} {M0 : nx_M} {m : Nat} {u : Nat} {g : mS} {a1 : Int32} {r : Int32 × mS}  (h : fM_retryNow u g a1 = some r) : nx_Ct l Γ 7 yX8_retryNow cX8_retryNow 5 (some .int) [.ref m, .int a1] (mW Γ M0 m g) (some (.int r.1), (mW Γ M0 m r.2)) :=
  nx_ct (out := fun r0 : Int32 × mS => (some (.int r0.1), (mW Γ M0 m r0.2))) [some (.ref m), some (.int a1), none, none, none] pn_RX8 h (Nat.le_of_ble_eq_true rfl) rfl (fun X Z _ => jM_retryNow  u g a1 X Z)
theorem dX8_keep_0 : decode cX8_keep 0 = .ok (.aload_n 0, 1) := by decide +kernel
theorem dX8_keep_1 : decode cX8_keep 1 = .ok (.getfield 145, 3) := by decide +kernel
theorem dX8_keep_4 : decode cX8_keep 4 = .ok (.bipush 40, 2) := by decide +kernel
theorem dX8_keep_6 : decode cX8_keep 6 = .ok (.if_icmp .ne 45, 3) := by decide +kernel
theorem dX8_keep_9 : decode cX8_keep 9 = .ok (.sipush 820, 3) := by decide +kernel
theorem dX8_keep_12 : decode cX8_keep 12 = .ok (.istore_n 1, 1) := by decide +kernel
theorem dX8_keep_13 : decode cX8_keep 13 = .ok (.iload_n 1, 1) := by decide +kernel
theorem dX8_keep_14 : decode cX8_keep 14 = .ok (.ldc 37, 2) := by decide +kernel
theorem dX8_keep_16 : decode cX8_keep 16 = .ok (.if_icmp .ge 25, 3) := by decide +kernel
theorem dX8_keep_19 : decode cX8_keep 19 = .ok (.aload_n 0, 1) := by decide +kernel
theorem dX8_keep_20 : decode cX8_keep 20 = .ok (.getfield 38, 3) := by decide +kernel
theorem dX8_keep_23 : decode cX8_keep 23 = .ok (.iload_n 1, 1) := by decide +kernel
theorem dX8_keep_24 : decode cX8_keep 24 = .ok (.sipush 820, 3) := by decide +kernel
theorem dX8_keep_27 : decode cX8_keep 27 = .ok (.isub, 1) := by decide +kernel
theorem dX8_keep_28 : decode cX8_keep 28 = .ok (.aload_n 0, 1) := by decide +kernel
theorem dX8_keep_29 : decode cX8_keep 29 = .ok (.getfield 38, 3) := by decide +kernel
theorem dX8_keep_32 : decode cX8_keep 32 = .ok (.iload_n 1, 1) := by decide +kernel
theorem dX8_keep_33 : decode cX8_keep 33 = .ok (.iaload, 1) := by decide +kernel
theorem dX8_keep_34 : decode cX8_keep 34 = .ok (.iastore, 1) := by decide +kernel
theorem dX8_keep_35 : decode cX8_keep 35 = .ok (.iinc 1 1, 3) := by decide +kernel
theorem dX8_keep_38 : decode cX8_keep 38 = .ok (.goto (-25), 3) := by decide +kernel
theorem dX8_keep_41 : decode cX8_keep 41 = .ok (.aload_n 0, 1) := by decide +kernel
theorem dX8_keep_42 : decode cX8_keep 42 = .ok (.dup, 1) := by decide +kernel
theorem dX8_keep_43 : decode cX8_keep 43 = .ok (.getfield 145, 3) := by decide +kernel
theorem dX8_keep_46 : decode cX8_keep 46 = .ok (.iconst 1, 1) := by decide +kernel
theorem dX8_keep_47 : decode cX8_keep 47 = .ok (.isub, 1) := by decide +kernel
theorem dX8_keep_48 : decode cX8_keep 48 = .ok (.putfield 145, 3) := by decide +kernel
theorem dX8_keep_51 : decode cX8_keep 51 = .ok (.iconst 0, 1) := by decide +kernel
theorem dX8_keep_52 : decode cX8_keep 52 = .ok (.istore_n 1, 1) := by decide +kernel
theorem dX8_keep_53 : decode cX8_keep 53 = .ok (.iload_n 1, 1) := by decide +kernel
theorem dX8_keep_54 : decode cX8_keep 54 = .ok (.sipush 820, 3) := by decide +kernel
theorem dX8_keep_57 : decode cX8_keep 57 = .ok (.if_icmp .ge 30, 3) := by decide +kernel
theorem dX8_keep_60 : decode cX8_keep 60 = .ok (.aload_n 0, 1) := by decide +kernel
theorem dX8_keep_61 : decode cX8_keep 61 = .ok (.getfield 38, 3) := by decide +kernel
theorem dX8_keep_64 : decode cX8_keep 64 = .ok (.sipush 820, 3) := by decide +kernel
theorem dX8_keep_67 : decode cX8_keep 67 = .ok (.aload_n 0, 1) := by decide +kernel
theorem dX8_keep_68 : decode cX8_keep 68 = .ok (.getfield 145, 3) := by decide +kernel
theorem dX8_keep_71 : decode cX8_keep 71 = .ok (.imul, 1) := by decide +kernel
theorem dX8_keep_72 : decode cX8_keep 72 = .ok (.iload_n 1, 1) := by decide +kernel
theorem dX8_keep_73 : decode cX8_keep 73 = .ok (.iadd, 1) := by decide +kernel
theorem dX8_keep_74 : decode cX8_keep 74 = .ok (.aload_n 0, 1) := by decide +kernel
theorem dX8_keep_75 : decode cX8_keep 75 = .ok (.getfield 28, 3) := by decide +kernel
theorem dX8_keep_78 : decode cX8_keep 78 = .ok (.iload_n 1, 1) := by decide +kernel
theorem dX8_keep_79 : decode cX8_keep 79 = .ok (.iaload, 1) := by decide +kernel
theorem dX8_keep_80 : decode cX8_keep 80 = .ok (.iastore, 1) := by decide +kernel
theorem dX8_keep_81 : decode cX8_keep 81 = .ok (.iinc 1 1, 3) := by decide +kernel
theorem dX8_keep_84 : decode cX8_keep 84 = .ok (.goto (-31), 3) := by decide +kernel
theorem dX8_keep_87 : decode cX8_keep 87 = .ok (.aload_n 0, 1) := by decide +kernel
theorem dX8_keep_88 : decode cX8_keep 88 = .ok (.dup, 1) := by decide +kernel
theorem dX8_keep_89 : decode cX8_keep 89 = .ok (.getfield 145, 3) := by decide +kernel
theorem dX8_keep_92 : decode cX8_keep 92 = .ok (.iconst 1, 1) := by decide +kernel
theorem dX8_keep_93 : decode cX8_keep 93 = .ok (.iadd, 1) := by decide +kernel
theorem dX8_keep_94 : decode cX8_keep 94 = .ok (.putfield 145, 3) := by decide +kernel
theorem dX8_keep_97 : decode cX8_keep 97 = .ok (.return_, 1) := by decide +kernel
def fM_keep_13  (s1 : Int32 × mS) : Option ((Int32 × mS) ⊕ (mS)) :=
  if (32800 : Int32) ≤ s1.1 then
    some (.inr s1.2)
  else
    (nx_rd (mlen 10) (s1.2.1 10) s1.1).bind fun x2 =>
    (mWr s1.2 10 (s1.1 - (iz 820)) x2).bind fun g3 =>
    some (.inl ((s1.1 + iz 1), g3))
def fM_keep_53  (s7 : Int32 × mS) : Option ((Int32 × mS) ⊕ (mS)) :=
  if (iz 820) ≤ s7.1 then
    some (.inr s7.2)
  else
    (nx_rd (mlen 7) (s7.2.1 7) s7.1).bind fun x8 =>
    (mWr s7.2 10 (((iz 820) * (s7.2.1 0 19)) + s7.1) x8).bind fun g9 =>
    some (.inl ((s7.1 + iz 1), g9))
def fM_keep (u : Nat) (g : mS) : Option (mS) :=
  (if (g.1 0 19) = (iz 40) then
     (nx_iter u (fM_keep_13) ((iz 820), g)).bind fun e4 =>
     (some (mFs e4 19 ((e4.1 0 19) - (iz 1)))).bind fun g5 =>
     some g5
   else
     some g : Option (mS)).bind fun s6 =>
  (nx_iter u (fM_keep_53) ((iz 0), s6)).bind fun e10 =>
  (some (mFs e10 19 ((e10.1 0 19) + (iz 1)))).bind fun g11 =>
  some g11
set_option maxRecDepth 4000 in
theorem jM_keep_13 {Γ : nx_G} {M0 : nx_M} {m : Nat}    (X : nx_X) (Z : nx_Z) (s1 : Int32 × mS) : nx_J Γ X (RX8, cX8_keep, 2, none, "keep", 1) Z (Sum.elim (fun s1 : Int32 × mS => .inl (13, [some (.ref m), some (.int s1.1)], [], (mW Γ M0 m s1.2))) (fun e4 : mS => .inl (41, [some (.ref m), none], [], (mW Γ M0 m e4)))) (.inl (13, [some (.ref m), some (.int s1.1)], [], (mW Γ M0 m s1.2))) (fM_keep_13 s1) := by
  unfold fM_keep_13
  refine nx_iload_n rfl dX8_keep_13 rfl ?_
  refine nx_ldc wd_1144 dX8_keep_14 rfl ?_
  refine nx_icmp_ge (t := 41) dX8_keep_16 (by decide) rfl ?_ ?_
  · refine nx_weak (ls' := [some (.ref m), none]) (nx_wk_s (nx_wk_n nx_wk_e)) ?_
    obtain ⟨_, _⟩ := s1
    exact nx_leaf rfl
  · refine nx_aload_n rfl dX8_keep_19 rfl ?_
    refine nx_getf fl_8_38 mW_m rfl dX8_keep_20 rfl ?_
    refine nx_iload_n rfl dX8_keep_23 rfl ?_
    refine nx_sipush (by decide +kernel) dX8_keep_24 rfl ?_
    refine nx_isub dX8_keep_27 rfl ?_
    refine nx_aload_n rfl dX8_keep_28 rfl ?_
    refine nx_getf fl_8_38 mW_m rfl dX8_keep_29 rfl ?_
    refine nx_iload_n rfl dX8_keep_32 rfl ?_
    refine m_iald 10 ⟨Nat.le_of_ble_eq_true rfl, Nat.le_of_ble_eq_true rfl⟩ dX8_keep_33 rfl (fun x2 => ?_)
    refine m_iast 10 ⟨Nat.le_of_ble_eq_true rfl, Nat.le_of_ble_eq_true rfl⟩ dX8_keep_34 rfl (fun g3 => ?_)
    refine nx_iinc [some (.ref m), some (.int (s1.1 + iz 1))] dX8_keep_35 rfl rfl (Nat.le_of_ble_eq_true rfl) rfl rfl ?_
    refine nx_goto (q := 13) dX8_keep_38 (by decide) ?_
    obtain ⟨_, _⟩ := s1
    exact nx_leaf rfl
set_option maxRecDepth 4000 in
theorem jM_keep_53 {Γ : nx_G} {M0 : nx_M} {m : Nat}    (X : nx_X) (Z : nx_Z) (s7 : Int32 × mS) : nx_J Γ X (RX8, cX8_keep, 2, none, "keep", 1) Z (Sum.elim (fun s7 : Int32 × mS => .inl (53, [some (.ref m), some (.int s7.1)], [], (mW Γ M0 m s7.2))) (fun e10 : mS => .inl (87, [some (.ref m), none], [], (mW Γ M0 m e10)))) (.inl (53, [some (.ref m), some (.int s7.1)], [], (mW Γ M0 m s7.2))) (fM_keep_53 s7) := by
  unfold fM_keep_53
  refine nx_iload_n rfl dX8_keep_53 rfl ?_
  refine nx_sipush (by decide +kernel) dX8_keep_54 rfl ?_
  refine nx_icmp_ge (t := 87) dX8_keep_57 (by decide) rfl ?_ ?_
  · refine nx_weak (ls' := [some (.ref m), none]) (nx_wk_s (nx_wk_n nx_wk_e)) ?_
    obtain ⟨_, _⟩ := s7
    exact nx_leaf rfl
  · refine nx_aload_n rfl dX8_keep_60 rfl ?_
    refine nx_getf fl_8_38 mW_m rfl dX8_keep_61 rfl ?_
    refine nx_sipush (by decide +kernel) dX8_keep_64 rfl ?_
    refine nx_aload_n rfl dX8_keep_67 rfl ?_
    refine nx_getf fl_8_145 mW_m rfl dX8_keep_68 rfl ?_
    refine nx_imul dX8_keep_71 rfl ?_
    refine nx_iload_n rfl dX8_keep_72 rfl ?_
    refine nx_iadd dX8_keep_73 rfl ?_
    refine nx_aload_n rfl dX8_keep_74 rfl ?_
    refine nx_getf fl_8_28 mW_m rfl dX8_keep_75 rfl ?_
    refine nx_iload_n rfl dX8_keep_78 rfl ?_
    refine m_iald 7 ⟨Nat.le_of_ble_eq_true rfl, Nat.le_of_ble_eq_true rfl⟩ dX8_keep_79 rfl (fun x8 => ?_)
    refine m_iast 10 ⟨Nat.le_of_ble_eq_true rfl, Nat.le_of_ble_eq_true rfl⟩ dX8_keep_80 rfl (fun g9 => ?_)
    refine nx_iinc [some (.ref m), some (.int (s7.1 + iz 1))] dX8_keep_81 rfl rfl (Nat.le_of_ble_eq_true rfl) rfl rfl ?_
    refine nx_goto (q := 53) dX8_keep_84 (by decide) ?_
    obtain ⟨_, _⟩ := s7
    exact nx_leaf rfl
set_option maxRecDepth 4000 in
theorem jM_keep {Γ : nx_G} {M0 : nx_M} {m : Nat} (u : Nat) (g : mS)   (X : nx_X) (Z : nx_Z) : nx_J Γ X (RX8, cX8_keep, 2, none, "keep", 1) Z (fun r0 : mS => .inr (none, (mW Γ M0 m r0))) (.inl (0, [some (.ref m), none], [], (mW Γ M0 m g))) (fM_keep u g) := by
  unfold fM_keep
  refine nx_aload_n rfl dX8_keep_0 rfl ?_
  refine nx_getf fl_8_145 mW_m rfl dX8_keep_1 rfl ?_
  refine nx_bipush (by decide +kernel) dX8_keep_4 rfl ?_
  refine nx_seq (C1 := fun s6 : mS => .inl (51, [some (.ref m), none], [], (mW Γ M0 m s6))) ?_ (fun s6 => ?_)
  · refine nx_icmp_ne (t := 51) dX8_keep_6 (by decide) rfl ?_ ?_
    · exact nx_leaf rfl
    · refine nx_sipush (by decide +kernel) dX8_keep_9 rfl ?_
      refine nx_istore_n [some (.ref m), some (.int (iz 820))] dX8_keep_12 rfl (Nat.le_of_ble_eq_true rfl) rfl rfl ?_
      refine nx_seq (C1 := fun e4 : mS => .inl (41, [some (.ref m), none], [], (mW Γ M0 m e4))) (nx_loop (C1 := fun s1 : Int32 × mS => .inl (13, [some (.ref m), some (.int s1.1)], [], (mW Γ M0 m s1.2))) (fun s1 => jM_keep_13  X Z s1) ((iz 820), g)) (fun e4 => ?_)
      refine nx_aload_n rfl dX8_keep_41 rfl ?_
      refine nx_dup rfl dX8_keep_42 rfl ?_
      refine nx_getf fl_8_145 mW_m rfl dX8_keep_43 rfl ?_
      refine nx_iconst dX8_keep_46 rfl ?_
      refine nx_isub dX8_keep_47 rfl ?_
      refine m_put fl_8_145 ft_8_19 rfl rfl (Nat.le_of_ble_eq_true rfl) rfl dX8_keep_48 rfl (fun g5 => ?_)
      exact nx_leaf rfl
  refine nx_iconst dX8_keep_51 rfl ?_
  refine nx_istore_n [some (.ref m), some (.int (iz 0))] dX8_keep_52 rfl (Nat.le_of_ble_eq_true rfl) rfl rfl ?_
  refine nx_seq (C1 := fun e10 : mS => .inl (87, [some (.ref m), none], [], (mW Γ M0 m e10))) (nx_loop (C1 := fun s7 : Int32 × mS => .inl (53, [some (.ref m), some (.int s7.1)], [], (mW Γ M0 m s7.2))) (fun s7 => jM_keep_53  X Z s7) ((iz 0), s6)) (fun e10 => ?_)
  refine nx_aload_n rfl dX8_keep_87 rfl ?_
  refine nx_dup rfl dX8_keep_88 rfl ?_
  refine nx_getf fl_8_145 mW_m rfl dX8_keep_89 rfl ?_
  refine nx_iconst dX8_keep_92 rfl ?_
  refine nx_iadd dX8_keep_93 rfl ?_
  refine m_put fl_8_145 ft_8_19 rfl rfl (Nat.le_of_ble_eq_true rfl) rfl dX8_keep_94 rfl (fun g11 => ?_)
  exact nx_vret dX8_keep_97 rfl rfl
theorem cM_keep (l : Launch) {Γ : nx_G} {M0 : nx_M} {m : Nat} {u : Nat} {g : mS} {r : mS}  (h : fM_keep u g = some r) : nx_Ct l Γ 1 yX8_keep cX8_keep 2 none [.ref m] (mW Γ M0 m g) (none, (mW Γ M0 m r)) :=
  nx_ct (out := fun r0 : mS => (none, (mW Γ M0 m r0))) [some (.ref m), none] pn_RX8 h (Nat.le_of_ble_eq_true rfl) rfl (fun X Z _ => jM_keep  u g X Z)
theorem dX8_isRefused_0 : decode cX8_isRefused 0 = .ok (.iload_n 1, 1) := by decide +kernel
theorem dX8_isRefused_1 : decode cX8_isRefused 1 = .ok (.iconst (-1), 1) := by decide +kernel
theorem dX8_isRefused_2 : decode cX8_isRefused 2 = .ok (.if_icmp .ne 10, 3) := by decide +kernel
theorem dX8_isRefused_5 : decode cX8_isRefused 5 = .ok (.aload_n 0, 1) := by decide +kernel
theorem dX8_isRefused_6 : decode cX8_isRefused 6 = .ok (.invokevirtual 275, 3) := by decide +kernel
theorem dX8_isRefused_9 : decode cX8_isRefused 9 = .ok (.goto 13, 3) := by decide +kernel
theorem dX8_isRefused_12 : decode cX8_isRefused 12 = .ok (.aload_n 0, 1) := by decide +kernel
theorem dX8_isRefused_13 : decode cX8_isRefused 13 = .ok (.getfield 31, 3) := by decide +kernel
theorem dX8_isRefused_16 : decode cX8_isRefused 16 = .ok (.iload_n 1, 1) := by decide +kernel
theorem dX8_isRefused_17 : decode cX8_isRefused 17 = .ok (.dup2, 1) := by decide +kernel
theorem dX8_isRefused_18 : decode cX8_isRefused 18 = .ok (.iaload, 1) := by decide +kernel
theorem dX8_isRefused_19 : decode cX8_isRefused 19 = .ok (.iconst 1, 1) := by decide +kernel
theorem dX8_isRefused_20 : decode cX8_isRefused 20 = .ok (.iadd, 1) := by decide +kernel
theorem dX8_isRefused_21 : decode cX8_isRefused 21 = .ok (.iastore, 1) := by decide +kernel
theorem dX8_isRefused_22 : decode cX8_isRefused 22 = .ok (.iload_n 1, 1) := by decide +kernel
theorem dX8_isRefused_23 : decode cX8_isRefused 23 = .ok (.iconst (-1), 1) := by decide +kernel
theorem dX8_isRefused_24 : decode cX8_isRefused 24 = .ok (.if_icmp .eq 7, 3) := by decide +kernel
theorem dX8_isRefused_27 : decode cX8_isRefused 27 = .ok (.iconst 1, 1) := by decide +kernel
theorem dX8_isRefused_28 : decode cX8_isRefused 28 = .ok (.goto 4, 3) := by decide +kernel
theorem dX8_isRefused_31 : decode cX8_isRefused 31 = .ok (.iconst 0, 1) := by decide +kernel
theorem dX8_isRefused_32 : decode cX8_isRefused 32 = .ok (.ireturn, 1) := by decide +kernel
def fM_isRefused (u : Nat) (g : mS) (a1 : Int32) : Option (Bool × mS) :=
  (if a1 = (iz (-1)) then
     (fM_keep u g).bind fun g3 =>
     some g3
   else
     (nx_rd (mlen 8) (g.1 8) a1).bind fun x1 =>
     (mWr g 8 a1 (x1 + (iz 1))).bind fun g2 =>
     some g2 : Option (mS)).bind fun s4 =>
  if a1 = (iz (-1)) then
    some (false, s4)
  else
    some (true, s4)
set_option maxRecDepth 4000 in
theorem jM_isRefused {Γ : nx_G} {M0 : nx_M} {m : Nat} (u : Nat) (g : mS) (a1 : Int32)   (X : nx_X) (Z : nx_Z) : nx_J Γ X (RX8, cX8_isRefused, 2, (some .boolean), "isRefused", 2) Z (fun r0 : Bool × mS => .inr (some (.int (bz r0.1)), (mW Γ M0 m r0.2))) (.inl (0, [some (.ref m), some (.int a1)], [], (mW Γ M0 m g))) (fM_isRefused u g a1) := by
  unfold fM_isRefused
  refine nx_iload_n rfl dX8_isRefused_0 rfl ?_
  refine nx_iconst dX8_isRefused_1 rfl ?_
  refine nx_seq (C1 := fun s4 : mS => .inl (22, [some (.ref m), some (.int a1)], [], (mW Γ M0 m s4))) ?_ (fun s4 => ?_)
  · refine nx_icmp_ne (t := 12) dX8_isRefused_2 (by decide) rfl ?_ ?_
    · refine nx_aload_n rfl dX8_isRefused_12 rfl ?_
      refine nx_getf fl_8_31 mW_m rfl dX8_isRefused_13 rfl ?_
      refine nx_iload_n rfl dX8_isRefused_16 rfl ?_
      refine nx_dup2 rfl rfl dX8_isRefused_17 rfl ?_
      refine m_iald 8 ⟨Nat.le_of_ble_eq_true rfl, Nat.le_of_ble_eq_true rfl⟩ dX8_isRefused_18 rfl (fun x1 => ?_)
      refine nx_iconst dX8_isRefused_19 rfl ?_
      refine nx_iadd dX8_isRefused_20 rfl ?_
      refine m_iast 8 ⟨Nat.le_of_ble_eq_true rfl, Nat.le_of_ble_eq_true rfl⟩ dX8_isRefused_21 rfl (fun g2 => ?_)
      exact nx_leaf rfl
    · refine nx_aload_n rfl dX8_isRefused_5 rfl ?_
      refine nx_callVv [] (fun r => (mW Γ M0 m r)) cw_8_275 cv_X8_keep (fun r e => cM_keep X.2.1  e) mW_m rfl rfl (Nat.le_of_ble_eq_true rfl) (Nat.le_of_ble_eq_true rfl) dX8_isRefused_6 rfl (fun g3 => ?_)
      refine nx_goto (q := 22) dX8_isRefused_9 (by decide) ?_
      exact nx_leaf rfl
  refine nx_iload_n rfl dX8_isRefused_22 rfl ?_
  refine nx_iconst dX8_isRefused_23 rfl ?_
  refine nx_icmp_eq (t := 31) dX8_isRefused_24 (by decide) rfl ?_ ?_
  · refine nx_iconst dX8_isRefused_31 rfl ?_
    exact nx_zret (b := false) dX8_isRefused_32 rfl rfl
  · refine nx_iconst dX8_isRefused_27 rfl ?_
    refine nx_goto (q := 32) dX8_isRefused_28 (by decide) ?_
    exact nx_zret (b := true) dX8_isRefused_32 rfl rfl
theorem cM_isRefused (l : Launch) {Γ : nx_G} {M0 : nx_M} {m : Nat} {u : Nat} {g : mS} {a1 : Int32} {r : Bool × mS}  (h : fM_isRefused u g a1 = some r) : nx_Ct l Γ 2 yX8_isRefused cX8_isRefused 2 (some .boolean) [.ref m, .int a1] (mW Γ M0 m g) (some (.int (bz r.1)), (mW Γ M0 m r.2)) :=
  nx_ct (out := fun r0 : Bool × mS => (some (.int (bz r0.1)), (mW Γ M0 m r0.2))) [some (.ref m), some (.int a1)] pn_RX8 h (Nat.le_of_ble_eq_true rfl) rfl (fun X Z _ => jM_isRefused  u g a1 X Z)
theorem dX8_open_0 : decode cX8_open 0 = .ok (.aload_n 0, 1) := by decide +kernel
theorem dX8_open_1 : decode cX8_open 1 = .ok (.aload_n 0, 1) := by decide +kernel
theorem dX8_open_2 : decode cX8_open 2 = .ok (.iload_n 1, 1) := by decide +kernel
theorem dX8_open_3 : decode cX8_open 3 = .ok (.iload_n 2, 1) := by decide +kernel
theorem dX8_open_4 : decode cX8_open 4 = .ok (.invokevirtual 278, 3) := by decide +kernel
theorem dX8_open_7 : decode cX8_open 7 = .ok (.invokevirtual 281, 3) := by decide +kernel
theorem dX8_open_10 : decode cX8_open 10 = .ok (.ifCond .eq 7, 3) := by decide +kernel
theorem dX8_open_13 : decode cX8_open 13 = .ok (.iconst (-1), 1) := by decide +kernel
theorem dX8_open_14 : decode cX8_open 14 = .ok (.goto 9, 3) := by decide +kernel
theorem dX8_open_17 : decode cX8_open 17 = .ok (.aload_n 0, 1) := by decide +kernel
theorem dX8_open_18 : decode cX8_open 18 = .ok (.iload_n 1, 1) := by decide +kernel
theorem dX8_open_19 : decode cX8_open 19 = .ok (.iload_n 2, 1) := by decide +kernel
theorem dX8_open_20 : decode cX8_open 20 = .ok (.invokevirtual 266, 3) := by decide +kernel
theorem dX8_open_23 : decode cX8_open 23 = .ok (.ireturn, 1) := by decide +kernel
def fM_open (u : Nat) (g : mS) (a1 : Int32) (a2 : Int32) : Option (Int32 × mS) :=
  (fM_whyOpen u g a1 a2).bind fun x1 =>
  (fM_isRefused u g x1).bind fun p2 =>
  if p2.1 = true then
    some ((iz (-1)), p2.2)
  else
    (fM_openNow u p2.2 a1 a2).bind fun p3 =>
    some (p3.1, p3.2)
set_option maxRecDepth 4000 in
theorem jM_open {Γ : nx_G} {M0 : nx_M} {m : Nat} (u : Nat) (g : mS) (a1 : Int32) (a2 : Int32)   (X : nx_X) (Z : nx_Z) : nx_J Γ X (RX8, cX8_open, 3, (some .int), "open", 5) Z (fun r0 : Int32 × mS => .inr (some (.int r0.1), (mW Γ M0 m r0.2))) (.inl (0, [some (.ref m), some (.int a1), some (.int a2)], [], (mW Γ M0 m g))) (fM_open u g a1 a2) := by
  unfold fM_open
  refine nx_aload_n rfl dX8_open_0 rfl ?_
  refine nx_aload_n rfl dX8_open_1 rfl ?_
  refine nx_iload_n rfl dX8_open_2 rfl ?_
  refine nx_iload_n rfl dX8_open_3 rfl ?_
  refine nx_callVr [.int a1, .int a2] (fun r => .int r) (fun _ => (mW Γ M0 m g)) cw_8_278 cv_X8_whyOpen (fun r e => cM_whyOpen X.2.1  e) mW_m rfl rfl (Nat.le_of_ble_eq_true rfl) (Nat.le_of_ble_eq_true rfl) dX8_open_4 rfl (fun x1 => ?_)
  refine nx_callVr [.int x1] (fun r => .int (bz r.1)) (fun r => (mW Γ M0 m r.2)) cw_8_281 cv_X8_isRefused (fun r e => cM_isRefused X.2.1  e) mW_m rfl rfl (Nat.le_of_ble_eq_true rfl) (Nat.le_of_ble_eq_true rfl) dX8_open_7 rfl (fun p2 => ?_)
  refine nx_ifz_eq (t := 17) dX8_open_10 (by decide) rfl ?_ ?_
  · refine nx_aload_n rfl dX8_open_17 rfl ?_
    refine nx_iload_n rfl dX8_open_18 rfl ?_
    refine nx_iload_n rfl dX8_open_19 rfl ?_
    refine nx_callVr [.int a1, .int a2] (fun r => .int r.1) (fun r => (mW Γ M0 m r.2)) cw_8_266 cv_X8_openNow (fun r e => cM_openNow X.2.1  e) mW_m rfl rfl (Nat.le_of_ble_eq_true rfl) (Nat.le_of_ble_eq_true rfl) dX8_open_20 rfl (fun p3 => ?_)
    exact nx_iret dX8_open_23 rfl rfl
  · refine nx_iconst dX8_open_13 rfl ?_
    refine nx_goto (q := 23) dX8_open_14 (by decide) ?_
    exact nx_iret dX8_open_23 rfl rfl
theorem cM_open (l : Launch) {Γ : nx_G} {M0 : nx_M} {m : Nat} {u : Nat} {g : mS} {a1 : Int32} {a2 : Int32} {r : Int32 × mS}  (h : fM_open u g a1 a2 = some r) : nx_Ct l Γ 5 yX8_open cX8_open 3 (some .int) [.ref m, .int a1, .int a2] (mW Γ M0 m g) (some (.int r.1), (mW Γ M0 m r.2)) :=
  nx_ct (out := fun r0 : Int32 × mS => (some (.int r0.1), (mW Γ M0 m r0.2))) [some (.ref m), some (.int a1), some (.int a2)] pn_RX8 h (Nat.le_of_ble_eq_true rfl) rfl (fun X Z _ => jM_open  u g a1 a2 X Z)
theorem dX8_openAt_0 : decode cX8_openAt 0 = .ok (.aload_n 0, 1) := by decide +kernel
theorem dX8_openAt_1 : decode cX8_openAt 1 = .ok (.aload_n 0, 1) := by decide +kernel
theorem dX8_openAt_2 : decode cX8_openAt 2 = .ok (.iload_n 1, 1) := by decide +kernel
theorem dX8_openAt_3 : decode cX8_openAt 3 = .ok (.iload_n 2, 1) := by decide +kernel
theorem dX8_openAt_4 : decode cX8_openAt 4 = .ok (.iload_n 3, 1) := by decide +kernel
theorem dX8_openAt_5 : decode cX8_openAt 5 = .ok (.invokevirtual 284, 3) := by decide +kernel
theorem dX8_openAt_8 : decode cX8_openAt 8 = .ok (.invokevirtual 281, 3) := by decide +kernel
theorem dX8_openAt_11 : decode cX8_openAt 11 = .ok (.ifCond .eq 7, 3) := by decide +kernel
theorem dX8_openAt_14 : decode cX8_openAt 14 = .ok (.iconst (-1), 1) := by decide +kernel
theorem dX8_openAt_15 : decode cX8_openAt 15 = .ok (.goto 10, 3) := by decide +kernel
theorem dX8_openAt_18 : decode cX8_openAt 18 = .ok (.aload_n 0, 1) := by decide +kernel
theorem dX8_openAt_19 : decode cX8_openAt 19 = .ok (.iload_n 1, 1) := by decide +kernel
theorem dX8_openAt_20 : decode cX8_openAt 20 = .ok (.iload_n 2, 1) := by decide +kernel
theorem dX8_openAt_21 : decode cX8_openAt 21 = .ok (.iload_n 3, 1) := by decide +kernel
theorem dX8_openAt_22 : decode cX8_openAt 22 = .ok (.invokevirtual 287, 3) := by decide +kernel
theorem dX8_openAt_25 : decode cX8_openAt 25 = .ok (.ireturn, 1) := by decide +kernel
def fM_openAt (u : Nat) (g : mS) (a1 : Int32) (a2 : Int32) (a3 : Int32) : Option (Int32 × mS) :=
  (fM_whyOpenAt u g a1 a2 a3).bind fun x1 =>
  (fM_isRefused u g x1).bind fun p2 =>
  if p2.1 = true then
    some ((iz (-1)), p2.2)
  else
    (fM_openAtNow u p2.2 a1 a2 a3).bind fun p3 =>
    some (p3.1, p3.2)
set_option maxRecDepth 4000 in
theorem jM_openAt {Γ : nx_G} {M0 : nx_M} {m : Nat} (u : Nat) (g : mS) (a1 : Int32) (a2 : Int32) (a3 : Int32)   (X : nx_X) (Z : nx_Z) : nx_J Γ X (RX8, cX8_openAt, 4, (some .int), "openAt", 5) Z (fun r0 : Int32 × mS => .inr (some (.int r0.1), (mW Γ M0 m r0.2))) (.inl (0, [some (.ref m), some (.int a1), some (.int a2), some (.int a3)], [], (mW Γ M0 m g))) (fM_openAt u g a1 a2 a3) := by
  unfold fM_openAt
  refine nx_aload_n rfl dX8_openAt_0 rfl ?_
  refine nx_aload_n rfl dX8_openAt_1 rfl ?_
  refine nx_iload_n rfl dX8_openAt_2 rfl ?_
  refine nx_iload_n rfl dX8_openAt_3 rfl ?_
  refine nx_iload_n rfl dX8_openAt_4 rfl ?_
  refine nx_callVr [.int a1, .int a2, .int a3] (fun r => .int r) (fun _ => (mW Γ M0 m g)) cw_8_284 cv_X8_whyOpenAt (fun r e => cM_whyOpenAt X.2.1  e) mW_m rfl rfl (Nat.le_of_ble_eq_true rfl) (Nat.le_of_ble_eq_true rfl) dX8_openAt_5 rfl (fun x1 => ?_)
  refine nx_callVr [.int x1] (fun r => .int (bz r.1)) (fun r => (mW Γ M0 m r.2)) cw_8_281 cv_X8_isRefused (fun r e => cM_isRefused X.2.1  e) mW_m rfl rfl (Nat.le_of_ble_eq_true rfl) (Nat.le_of_ble_eq_true rfl) dX8_openAt_8 rfl (fun p2 => ?_)
  refine nx_ifz_eq (t := 18) dX8_openAt_11 (by decide) rfl ?_ ?_
  · refine nx_aload_n rfl dX8_openAt_18 rfl ?_
    refine nx_iload_n rfl dX8_openAt_19 rfl ?_
    refine nx_iload_n rfl dX8_openAt_20 rfl ?_
    refine nx_iload_n rfl dX8_openAt_21 rfl ?_
    refine nx_callVr [.int a1, .int a2, .int a3] (fun r => .int r.1) (fun r => (mW Γ M0 m r.2)) cw_8_287 cv_X8_openAtNow (fun r e => cM_openAtNow X.2.1  e) mW_m rfl rfl (Nat.le_of_ble_eq_true rfl) (Nat.le_of_ble_eq_true rfl) dX8_openAt_22 rfl (fun p3 => ?_)
    exact nx_iret dX8_openAt_25 rfl rfl
  · refine nx_iconst dX8_openAt_14 rfl ?_
    refine nx_goto (q := 25) dX8_openAt_15 (by decide) ?_
    exact nx_iret dX8_openAt_25 rfl rfl
theorem cM_openAt (l : Launch) {Γ : nx_G} {M0 : nx_M} {m : Nat} {u : Nat} {g : mS} {a1 : Int32} {a2 : Int32} {a3 : Int32} {r : Int32 × mS}  (h : fM_openAt u g a1 a2 a3 = some r) : nx_Ct l Γ 5 yX8_openAt cX8_openAt 4 (some .int) [.ref m, .int a1, .int a2, .int a3] (mW Γ M0 m g) (some (.int r.1), (mW Γ M0 m r.2)) :=
  nx_ct (out := fun r0 : Int32 × mS => (some (.int r0.1), (mW Γ M0 m r0.2))) [some (.ref m), some (.int a1), some (.int a2), some (.int a3)] pn_RX8 h (Nat.le_of_ble_eq_true rfl) rfl (fun X Z _ => jM_openAt  u g a1 a2 a3 X Z)
theorem dX8_read_0 : decode cX8_read 0 = .ok (.aload_n 0, 1) := by decide +kernel
theorem dX8_read_1 : decode cX8_read 1 = .ok (.aload_n 0, 1) := by decide +kernel
theorem dX8_read_2 : decode cX8_read 2 = .ok (.iload_n 1, 1) := by decide +kernel
theorem dX8_read_3 : decode cX8_read 3 = .ok (.iload_n 2, 1) := by decide +kernel
theorem dX8_read_4 : decode cX8_read 4 = .ok (.invokevirtual 290, 3) := by decide +kernel
theorem dX8_read_7 : decode cX8_read 7 = .ok (.invokevirtual 281, 3) := by decide +kernel
theorem dX8_read_10 : decode cX8_read 10 = .ok (.ifCond .eq 7, 3) := by decide +kernel
theorem dX8_read_13 : decode cX8_read 13 = .ok (.iconst (-1), 1) := by decide +kernel
theorem dX8_read_14 : decode cX8_read 14 = .ok (.goto 9, 3) := by decide +kernel
theorem dX8_read_17 : decode cX8_read 17 = .ok (.aload_n 0, 1) := by decide +kernel
theorem dX8_read_18 : decode cX8_read 18 = .ok (.iload_n 1, 1) := by decide +kernel
theorem dX8_read_19 : decode cX8_read 19 = .ok (.iload_n 2, 1) := by decide +kernel
theorem dX8_read_20 : decode cX8_read 20 = .ok (.invokevirtual 269, 3) := by decide +kernel
theorem dX8_read_23 : decode cX8_read 23 = .ok (.ireturn, 1) := by decide +kernel
def fM_read (u : Nat) (g : mS) (a1 : Int32) (a2 : Int32) : Option (Int32 × mS) :=
  (fM_whyRead u g a1 a2).bind fun x1 =>
  (fM_isRefused u g x1).bind fun p2 =>
  if p2.1 = true then
    some ((iz (-1)), p2.2)
  else
    (fM_readNow u p2.2 a1 a2).bind fun p3 =>
    some (p3.1, p3.2)
set_option maxRecDepth 4000 in
theorem jM_read {Γ : nx_G} {M0 : nx_M} {m : Nat} (u : Nat) (g : mS) (a1 : Int32) (a2 : Int32)   (X : nx_X) (Z : nx_Z) : nx_J Γ X (RX8, cX8_read, 3, (some .int), "read", 6) Z (fun r0 : Int32 × mS => .inr (some (.int r0.1), (mW Γ M0 m r0.2))) (.inl (0, [some (.ref m), some (.int a1), some (.int a2)], [], (mW Γ M0 m g))) (fM_read u g a1 a2) := by
  unfold fM_read
  refine nx_aload_n rfl dX8_read_0 rfl ?_
  refine nx_aload_n rfl dX8_read_1 rfl ?_
  refine nx_iload_n rfl dX8_read_2 rfl ?_
  refine nx_iload_n rfl dX8_read_3 rfl ?_
  refine nx_callVr [.int a1, .int a2] (fun r => .int r) (fun _ => (mW Γ M0 m g)) cw_8_290 cv_X8_whyRead (fun r e => cM_whyRead X.2.1  e) mW_m rfl rfl (Nat.le_of_ble_eq_true rfl) (Nat.le_of_ble_eq_true rfl) dX8_read_4 rfl (fun x1 => ?_)
  refine nx_callVr [.int x1] (fun r => .int (bz r.1)) (fun r => (mW Γ M0 m r.2)) cw_8_281 cv_X8_isRefused (fun r e => cM_isRefused X.2.1  e) mW_m rfl rfl (Nat.le_of_ble_eq_true rfl) (Nat.le_of_ble_eq_true rfl) dX8_read_7 rfl (fun p2 => ?_)
  refine nx_ifz_eq (t := 17) dX8_read_10 (by decide) rfl ?_ ?_
  · refine nx_aload_n rfl dX8_read_17 rfl ?_
    refine nx_iload_n rfl dX8_read_18 rfl ?_
    refine nx_iload_n rfl dX8_read_19 rfl ?_
    refine nx_callVr [.int a1, .int a2] (fun r => .int r.1) (fun r => (mW Γ M0 m r.2)) cw_8_269 cv_X8_readNow (fun r e => cM_readNow X.2.1  e) mW_m rfl rfl (Nat.le_of_ble_eq_true rfl) (Nat.le_of_ble_eq_true rfl) dX8_read_20 rfl (fun p3 => ?_)
    exact nx_iret dX8_read_23 rfl rfl
  · refine nx_iconst dX8_read_13 rfl ?_
    refine nx_goto (q := 23) dX8_read_14 (by decide) ?_
    exact nx_iret dX8_read_23 rfl rfl
theorem cM_read (l : Launch) {Γ : nx_G} {M0 : nx_M} {m : Nat} {u : Nat} {g : mS} {a1 : Int32} {a2 : Int32} {r : Int32 × mS}  (h : fM_read u g a1 a2 = some r) : nx_Ct l Γ 6 yX8_read cX8_read 3 (some .int) [.ref m, .int a1, .int a2] (mW Γ M0 m g) (some (.int r.1), (mW Γ M0 m r.2)) :=
  nx_ct (out := fun r0 : Int32 × mS => (some (.int r0.1), (mW Γ M0 m r0.2))) [some (.ref m), some (.int a1), some (.int a2)] pn_RX8 h (Nat.le_of_ble_eq_true rfl) rfl (fun X Z _ => jM_read  u g a1 a2 X Z)
theorem dX8_write_0 : decode cX8_write 0 = .ok (.aload_n 0, 1) := by decide +kernel
theorem dX8_write_1 : decode cX8_write 1 = .ok (.aload_n 0, 1) := by decide +kernel
theorem dX8_write_2 : decode cX8_write 2 = .ok (.iload_n 1, 1) := by decide +kernel
theorem dX8_write_3 : decode cX8_write 3 = .ok (.iload_n 2, 1) := by decide +kernel
theorem dX8_write_4 : decode cX8_write 4 = .ok (.iload_n 3, 1) := by decide +kernel
theorem dX8_write_5 : decode cX8_write 5 = .ok (.invokevirtual 293, 3) := by decide +kernel
theorem dX8_write_8 : decode cX8_write 8 = .ok (.invokevirtual 281, 3) := by decide +kernel
theorem dX8_write_11 : decode cX8_write 11 = .ok (.ifCond .eq 7, 3) := by decide +kernel
theorem dX8_write_14 : decode cX8_write 14 = .ok (.iconst (-1), 1) := by decide +kernel
theorem dX8_write_15 : decode cX8_write 15 = .ok (.goto 10, 3) := by decide +kernel
theorem dX8_write_18 : decode cX8_write 18 = .ok (.aload_n 0, 1) := by decide +kernel
theorem dX8_write_19 : decode cX8_write 19 = .ok (.iload_n 1, 1) := by decide +kernel
theorem dX8_write_20 : decode cX8_write 20 = .ok (.iload_n 2, 1) := by decide +kernel
theorem dX8_write_21 : decode cX8_write 21 = .ok (.iload_n 3, 1) := by decide +kernel
theorem dX8_write_22 : decode cX8_write 22 = .ok (.invokevirtual 272, 3) := by decide +kernel
theorem dX8_write_25 : decode cX8_write 25 = .ok (.ireturn, 1) := by decide +kernel
def fM_write (u : Nat) (g : mS) (a1 : Int32) (a2 : Int32) (a3 : Int32) : Option (Int32 × mS) :=
  (fM_whyWrite u g a1 a2 a3).bind fun x1 =>
  (fM_isRefused u g x1).bind fun p2 =>
  if p2.1 = true then
    some ((iz (-1)), p2.2)
  else
    (fM_writeNow u p2.2 a1 a2 a3).bind fun p3 =>
    some (p3.1, p3.2)
set_option maxRecDepth 4000 in
theorem jM_write {Γ : nx_G} {M0 : nx_M} {m : Nat} (u : Nat) (g : mS) (a1 : Int32) (a2 : Int32) (a3 : Int32)   (X : nx_X) (Z : nx_Z) : nx_J Γ X (RX8, cX8_write, 4, (some .int), "write", 7) Z (fun r0 : Int32 × mS => .inr (some (.int r0.1), (mW Γ M0 m r0.2))) (.inl (0, [some (.ref m), some (.int a1), some (.int a2), some (.int a3)], [], (mW Γ M0 m g))) (fM_write u g a1 a2 a3) := by
  unfold fM_write
  refine nx_aload_n rfl dX8_write_0 rfl ?_
  refine nx_aload_n rfl dX8_write_1 rfl ?_
  refine nx_iload_n rfl dX8_write_2 rfl ?_
  refine nx_iload_n rfl dX8_write_3 rfl ?_
  refine nx_iload_n rfl dX8_write_4 rfl ?_
  refine nx_callVr [.int a1, .int a2, .int a3] (fun r => .int r) (fun _ => (mW Γ M0 m g)) cw_8_293 cv_X8_whyWrite (fun r e => cM_whyWrite X.2.1  e) mW_m rfl rfl (Nat.le_of_ble_eq_true rfl) (Nat.le_of_ble_eq_true rfl) dX8_write_5 rfl (fun x1 => ?_)
  refine nx_callVr [.int x1] (fun r => .int (bz r.1)) (fun r => (mW Γ M0 m r.2)) cw_8_281 cv_X8_isRefused (fun r e => cM_isRefused X.2.1  e) mW_m rfl rfl (Nat.le_of_ble_eq_true rfl) (Nat.le_of_ble_eq_true rfl) dX8_write_8 rfl (fun p2 => ?_)
  refine nx_ifz_eq (t := 18) dX8_write_11 (by decide) rfl ?_ ?_
  · refine nx_aload_n rfl dX8_write_18 rfl ?_
    refine nx_iload_n rfl dX8_write_19 rfl ?_
    refine nx_iload_n rfl dX8_write_20 rfl ?_
    refine nx_iload_n rfl dX8_write_21 rfl ?_
    refine nx_callVr [.int a1, .int a2, .int a3] (fun r => .int r.1) (fun r => (mW Γ M0 m r.2)) cw_8_272 cv_X8_writeNow (fun r e => cM_writeNow X.2.1  e) mW_m rfl rfl (Nat.le_of_ble_eq_true rfl) (Nat.le_of_ble_eq_true rfl) dX8_write_22 rfl (fun p3 => ?_)
    exact nx_iret dX8_write_25 rfl rfl
  · refine nx_iconst dX8_write_14 rfl ?_
    refine nx_goto (q := 25) dX8_write_15 (by decide) ?_
    exact nx_iret dX8_write_25 rfl rfl
theorem cM_write (l : Launch) {Γ : nx_G} {M0 : nx_M} {m : Nat} {u : Nat} {g : mS} {a1 : Int32} {a2 : Int32} {a3 : Int32} {r : Int32 × mS}  (h : fM_write u g a1 a2 a3 = some r) : nx_Ct l Γ 7 yX8_write cX8_write 4 (some .int) [.ref m, .int a1, .int a2, .int a3] (mW Γ M0 m g) (some (.int r.1), (mW Γ M0 m r.2)) :=
  nx_ct (out := fun r0 : Int32 × mS => (some (.int r0.1), (mW Γ M0 m r0.2))) [some (.ref m), some (.int a1), some (.int a2), some (.int a3)] pn_RX8 h (Nat.le_of_ble_eq_true rfl) rfl (fun X Z _ => jM_write  u g a1 a2 a3 X Z)
theorem dX8_commit_0 : decode cX8_commit 0 = .ok (.aload_n 0, 1) := by decide +kernel
theorem dX8_commit_1 : decode cX8_commit 1 = .ok (.aload_n 0, 1) := by decide +kernel
theorem dX8_commit_2 : decode cX8_commit 2 = .ok (.iload_n 1, 1) := by decide +kernel
theorem dX8_commit_3 : decode cX8_commit 3 = .ok (.invokevirtual 296, 3) := by decide +kernel
theorem dX8_commit_6 : decode cX8_commit 6 = .ok (.invokevirtual 281, 3) := by decide +kernel
theorem dX8_commit_9 : decode cX8_commit 9 = .ok (.ifCond .eq 7, 3) := by decide +kernel
theorem dX8_commit_12 : decode cX8_commit 12 = .ok (.iconst (-1), 1) := by decide +kernel
theorem dX8_commit_13 : decode cX8_commit 13 = .ok (.goto 8, 3) := by decide +kernel
theorem dX8_commit_16 : decode cX8_commit 16 = .ok (.aload_n 0, 1) := by decide +kernel
theorem dX8_commit_17 : decode cX8_commit 17 = .ok (.iload_n 1, 1) := by decide +kernel
theorem dX8_commit_18 : decode cX8_commit 18 = .ok (.invokevirtual 299, 3) := by decide +kernel
theorem dX8_commit_21 : decode cX8_commit 21 = .ok (.ireturn, 1) := by decide +kernel
def fM_commit (u : Nat) (g : mS) (a1 : Int32) : Option (Int32 × mS) :=
  (fM_whyCommit u g a1).bind fun x1 =>
  (fM_isRefused u g x1).bind fun p2 =>
  if p2.1 = true then
    some ((iz (-1)), p2.2)
  else
    (fM_commitNow u p2.2 a1).bind fun p3 =>
    some (p3.1, p3.2)
set_option maxRecDepth 4000 in
theorem jM_commit {Γ : nx_G} {M0 : nx_M} {m : Nat} (u : Nat) (g : mS) (a1 : Int32)   (X : nx_X) (Z : nx_Z) : nx_J Γ X (RX8, cX8_commit, 2, (some .int), "commit", 10) Z (fun r0 : Int32 × mS => .inr (some (.int r0.1), (mW Γ M0 m r0.2))) (.inl (0, [some (.ref m), some (.int a1)], [], (mW Γ M0 m g))) (fM_commit u g a1) := by
  unfold fM_commit
  refine nx_aload_n rfl dX8_commit_0 rfl ?_
  refine nx_aload_n rfl dX8_commit_1 rfl ?_
  refine nx_iload_n rfl dX8_commit_2 rfl ?_
  refine nx_callVr [.int a1] (fun r => .int r) (fun _ => (mW Γ M0 m g)) cw_8_296 cv_X8_whyCommit (fun r e => cM_whyCommit X.2.1  e) mW_m rfl rfl (Nat.le_of_ble_eq_true rfl) (Nat.le_of_ble_eq_true rfl) dX8_commit_3 rfl (fun x1 => ?_)
  refine nx_callVr [.int x1] (fun r => .int (bz r.1)) (fun r => (mW Γ M0 m r.2)) cw_8_281 cv_X8_isRefused (fun r e => cM_isRefused X.2.1  e) mW_m rfl rfl (Nat.le_of_ble_eq_true rfl) (Nat.le_of_ble_eq_true rfl) dX8_commit_6 rfl (fun p2 => ?_)
  refine nx_ifz_eq (t := 16) dX8_commit_9 (by decide) rfl ?_ ?_
  · refine nx_aload_n rfl dX8_commit_16 rfl ?_
    refine nx_iload_n rfl dX8_commit_17 rfl ?_
    refine nx_callVr [.int a1] (fun r => .int r.1) (fun r => (mW Γ M0 m r.2)) cw_8_299 cv_X8_commitNow (fun r e => cM_commitNow X.2.1  e) mW_m rfl rfl (Nat.le_of_ble_eq_true rfl) (Nat.le_of_ble_eq_true rfl) dX8_commit_18 rfl (fun p3 => ?_)
    exact nx_iret dX8_commit_21 rfl rfl
  · refine nx_iconst dX8_commit_12 rfl ?_
    refine nx_goto (q := 21) dX8_commit_13 (by decide) ?_
    exact nx_iret dX8_commit_21 rfl rfl
theorem cM_commit (l : Launch) {Γ : nx_G} {M0 : nx_M} {m : Nat} {u : Nat} {g : mS} {a1 : Int32} {r : Int32 × mS}  (h : fM_commit u g a1 = some r) : nx_Ct l Γ 10 yX8_commit cX8_commit 2 (some .int) [.ref m, .int a1] (mW Γ M0 m g) (some (.int r.1), (mW Γ M0 m r.2)) :=
  nx_ct (out := fun r0 : Int32 × mS => (some (.int r0.1), (mW Γ M0 m r0.2))) [some (.ref m), some (.int a1)] pn_RX8 h (Nat.le_of_ble_eq_true rfl) rfl (fun X Z _ => jM_commit  u g a1 X Z)
theorem dX8_abort_0 : decode cX8_abort 0 = .ok (.aload_n 0, 1) := by decide +kernel
theorem dX8_abort_1 : decode cX8_abort 1 = .ok (.aload_n 0, 1) := by decide +kernel
theorem dX8_abort_2 : decode cX8_abort 2 = .ok (.iload_n 1, 1) := by decide +kernel
theorem dX8_abort_3 : decode cX8_abort 3 = .ok (.invokevirtual 302, 3) := by decide +kernel
theorem dX8_abort_6 : decode cX8_abort 6 = .ok (.invokevirtual 281, 3) := by decide +kernel
theorem dX8_abort_9 : decode cX8_abort 9 = .ok (.ifCond .eq 7, 3) := by decide +kernel
theorem dX8_abort_12 : decode cX8_abort 12 = .ok (.iconst (-1), 1) := by decide +kernel
theorem dX8_abort_13 : decode cX8_abort 13 = .ok (.goto 8, 3) := by decide +kernel
theorem dX8_abort_16 : decode cX8_abort 16 = .ok (.aload_n 0, 1) := by decide +kernel
theorem dX8_abort_17 : decode cX8_abort 17 = .ok (.iload_n 1, 1) := by decide +kernel
theorem dX8_abort_18 : decode cX8_abort 18 = .ok (.invokevirtual 223, 3) := by decide +kernel
theorem dX8_abort_21 : decode cX8_abort 21 = .ok (.ireturn, 1) := by decide +kernel
def fM_abort (u : Nat) (g : mS) (a1 : Int32) : Option (Int32 × mS) :=
  (fM_whyAbort u g a1).bind fun x1 =>
  (fM_isRefused u g x1).bind fun p2 =>
  if p2.1 = true then
    some ((iz (-1)), p2.2)
  else
    (fM_fall u p2.2 a1).bind fun p3 =>
    some (p3.1, p3.2)
set_option maxRecDepth 4000 in
theorem jM_abort {Γ : nx_G} {M0 : nx_M} {m : Nat} (u : Nat) (g : mS) (a1 : Int32)   (X : nx_X) (Z : nx_Z) : nx_J Γ X (RX8, cX8_abort, 2, (some .int), "abort", 6) Z (fun r0 : Int32 × mS => .inr (some (.int r0.1), (mW Γ M0 m r0.2))) (.inl (0, [some (.ref m), some (.int a1)], [], (mW Γ M0 m g))) (fM_abort u g a1) := by
  unfold fM_abort
  refine nx_aload_n rfl dX8_abort_0 rfl ?_
  refine nx_aload_n rfl dX8_abort_1 rfl ?_
  refine nx_iload_n rfl dX8_abort_2 rfl ?_
  refine nx_callVr [.int a1] (fun r => .int r) (fun _ => (mW Γ M0 m g)) cw_8_302 cv_X8_whyAbort (fun r e => cM_whyAbort X.2.1  e) mW_m rfl rfl (Nat.le_of_ble_eq_true rfl) (Nat.le_of_ble_eq_true rfl) dX8_abort_3 rfl (fun x1 => ?_)
  refine nx_callVr [.int x1] (fun r => .int (bz r.1)) (fun r => (mW Γ M0 m r.2)) cw_8_281 cv_X8_isRefused (fun r e => cM_isRefused X.2.1  e) mW_m rfl rfl (Nat.le_of_ble_eq_true rfl) (Nat.le_of_ble_eq_true rfl) dX8_abort_6 rfl (fun p2 => ?_)
  refine nx_ifz_eq (t := 16) dX8_abort_9 (by decide) rfl ?_ ?_
  · refine nx_aload_n rfl dX8_abort_16 rfl ?_
    refine nx_iload_n rfl dX8_abort_17 rfl ?_
    refine nx_callVr [.int a1] (fun r => .int r.1) (fun r => (mW Γ M0 m r.2)) cw_8_223 cv_X8_fall (fun r e => cM_fall X.2.1  e) mW_m rfl rfl (Nat.le_of_ble_eq_true rfl) (Nat.le_of_ble_eq_true rfl) dX8_abort_18 rfl (fun p3 => ?_)
    exact nx_iret dX8_abort_21 rfl rfl
  · refine nx_iconst dX8_abort_12 rfl ?_
    refine nx_goto (q := 21) dX8_abort_13 (by decide) ?_
    exact nx_iret dX8_abort_21 rfl rfl
theorem cM_abort (l : Launch) {Γ : nx_G} {M0 : nx_M} {m : Nat} {u : Nat} {g : mS} {a1 : Int32} {r : Int32 × mS}  (h : fM_abort u g a1 = some r) : nx_Ct l Γ 6 yX8_abort cX8_abort 2 (some .int) [.ref m, .int a1] (mW Γ M0 m g) (some (.int r.1), (mW Γ M0 m r.2)) :=
  nx_ct (out := fun r0 : Int32 × mS => (some (.int r0.1), (mW Γ M0 m r0.2))) [some (.ref m), some (.int a1)] pn_RX8 h (Nat.le_of_ble_eq_true rfl) rfl (fun X Z _ => jM_abort  u g a1 X Z)
theorem dX8_retry_0 : decode cX8_retry 0 = .ok (.aload_n 0, 1) := by decide +kernel
theorem dX8_retry_1 : decode cX8_retry 1 = .ok (.aload_n 0, 1) := by decide +kernel
theorem dX8_retry_2 : decode cX8_retry 2 = .ok (.iload_n 1, 1) := by decide +kernel
theorem dX8_retry_3 : decode cX8_retry 3 = .ok (.invokevirtual 305, 3) := by decide +kernel
theorem dX8_retry_6 : decode cX8_retry 6 = .ok (.invokevirtual 281, 3) := by decide +kernel
theorem dX8_retry_9 : decode cX8_retry 9 = .ok (.ifCond .eq 7, 3) := by decide +kernel
theorem dX8_retry_12 : decode cX8_retry 12 = .ok (.iconst (-1), 1) := by decide +kernel
theorem dX8_retry_13 : decode cX8_retry 13 = .ok (.goto 8, 3) := by decide +kernel
theorem dX8_retry_16 : decode cX8_retry 16 = .ok (.aload_n 0, 1) := by decide +kernel
theorem dX8_retry_17 : decode cX8_retry 17 = .ok (.iload_n 1, 1) := by decide +kernel
theorem dX8_retry_18 : decode cX8_retry 18 = .ok (.invokevirtual 308, 3) := by decide +kernel
theorem dX8_retry_21 : decode cX8_retry 21 = .ok (.ireturn, 1) := by decide +kernel
def fM_retry (u : Nat) (g : mS) (a1 : Int32) : Option (Int32 × mS) :=
  (fM_whyRetry u g a1).bind fun x1 =>
  (fM_isRefused u g x1).bind fun p2 =>
  if p2.1 = true then
    some ((iz (-1)), p2.2)
  else
    (fM_retryNow u p2.2 a1).bind fun p3 =>
    some (p3.1, p3.2)
set_option maxRecDepth 4000 in
theorem jM_retry {Γ : nx_G} {M0 : nx_M} {m : Nat} (u : Nat) (g : mS) (a1 : Int32)   (X : nx_X) (Z : nx_Z) : nx_J Γ X (RX8, cX8_retry, 2, (some .int), "retry", 8) Z (fun r0 : Int32 × mS => .inr (some (.int r0.1), (mW Γ M0 m r0.2))) (.inl (0, [some (.ref m), some (.int a1)], [], (mW Γ M0 m g))) (fM_retry u g a1) := by
  unfold fM_retry
  refine nx_aload_n rfl dX8_retry_0 rfl ?_
  refine nx_aload_n rfl dX8_retry_1 rfl ?_
  refine nx_iload_n rfl dX8_retry_2 rfl ?_
  refine nx_callVr [.int a1] (fun r => .int r) (fun _ => (mW Γ M0 m g)) cw_8_305 cv_X8_whyRetry (fun r e => cM_whyRetry X.2.1  e) mW_m rfl rfl (Nat.le_of_ble_eq_true rfl) (Nat.le_of_ble_eq_true rfl) dX8_retry_3 rfl (fun x1 => ?_)
  refine nx_callVr [.int x1] (fun r => .int (bz r.1)) (fun r => (mW Γ M0 m r.2)) cw_8_281 cv_X8_isRefused (fun r e => cM_isRefused X.2.1  e) mW_m rfl rfl (Nat.le_of_ble_eq_true rfl) (Nat.le_of_ble_eq_true rfl) dX8_retry_6 rfl (fun p2 => ?_)
  refine nx_ifz_eq (t := 16) dX8_retry_9 (by decide) rfl ?_ ?_
  · refine nx_aload_n rfl dX8_retry_16 rfl ?_
    refine nx_iload_n rfl dX8_retry_17 rfl ?_
    refine nx_callVr [.int a1] (fun r => .int r.1) (fun r => (mW Γ M0 m r.2)) cw_8_308 cv_X8_retryNow (fun r e => cM_retryNow X.2.1  e) mW_m rfl rfl (Nat.le_of_ble_eq_true rfl) (Nat.le_of_ble_eq_true rfl) dX8_retry_18 rfl (fun p3 => ?_)
    exact nx_iret dX8_retry_21 rfl rfl
  · refine nx_iconst dX8_retry_12 rfl ?_
    refine nx_goto (q := 21) dX8_retry_13 (by decide) ?_
    exact nx_iret dX8_retry_21 rfl rfl
theorem cM_retry (l : Launch) {Γ : nx_G} {M0 : nx_M} {m : Nat} {u : Nat} {g : mS} {a1 : Int32} {r : Int32 × mS}  (h : fM_retry u g a1 = some r) : nx_Ct l Γ 8 yX8_retry cX8_retry 2 (some .int) [.ref m, .int a1] (mW Γ M0 m g) (some (.int r.1), (mW Γ M0 m r.2)) :=
  nx_ct (out := fun r0 : Int32 × mS => (some (.int r0.1), (mW Γ M0 m r0.2))) [some (.ref m), some (.int a1)] pn_RX8 h (Nat.le_of_ble_eq_true rfl) rfl (fun X Z _ => jM_retry  u g a1 X Z)
theorem dX8_prune_0 : decode cX8_prune 0 = .ok (.aload_n 0, 1) := by decide +kernel
theorem dX8_prune_1 : decode cX8_prune 1 = .ok (.aload_n 0, 1) := by decide +kernel
theorem dX8_prune_2 : decode cX8_prune 2 = .ok (.invokevirtual 158, 3) := by decide +kernel
theorem dX8_prune_5 : decode cX8_prune 5 = .ok (.ifCond .eq 7, 3) := by decide +kernel
theorem dX8_prune_8 : decode cX8_prune 8 = .ok (.iconst (-1), 1) := by decide +kernel
theorem dX8_prune_9 : decode cX8_prune 9 = .ok (.goto 4, 3) := by decide +kernel
theorem dX8_prune_12 : decode cX8_prune 12 = .ok (.iconst 0, 1) := by decide +kernel
theorem dX8_prune_13 : decode cX8_prune 13 = .ok (.invokevirtual 281, 3) := by decide +kernel
theorem dX8_prune_16 : decode cX8_prune 16 = .ok (.ifCond .eq 7, 3) := by decide +kernel
theorem dX8_prune_19 : decode cX8_prune 19 = .ok (.iconst (-1), 1) := by decide +kernel
theorem dX8_prune_20 : decode cX8_prune 20 = .ok (.goto 7, 3) := by decide +kernel
theorem dX8_prune_23 : decode cX8_prune 23 = .ok (.aload_n 0, 1) := by decide +kernel
theorem dX8_prune_24 : decode cX8_prune 24 = .ok (.invokevirtual 214, 3) := by decide +kernel
theorem dX8_prune_27 : decode cX8_prune 27 = .ok (.ireturn, 1) := by decide +kernel
def fM_prune (u : Nat) (g : mS) : Option (Int32 × mS) :=
  (fM_isStore u g).bind fun b1 =>
  (if b1 = true then
     some (iz (-1))
   else
     some (iz 0) : Option (Int32)).bind fun s2 =>
  (fM_isRefused u g s2).bind fun p3 =>
  if p3.1 = true then
    some ((iz (-1)), p3.2)
  else
    (fM_pruneNow u p3.2).bind fun p4 =>
    some (p4.1, p4.2)
set_option maxRecDepth 4000 in
theorem jM_prune {Γ : nx_G} {M0 : nx_M} {m : Nat} (u : Nat) (g : mS)   (X : nx_X) (Z : nx_Z) : nx_J Γ X (RX8, cX8_prune, 1, (some .int), "prune", 7) Z (fun r0 : Int32 × mS => .inr (some (.int r0.1), (mW Γ M0 m r0.2))) (.inl (0, [some (.ref m)], [], (mW Γ M0 m g))) (fM_prune u g) := by
  unfold fM_prune
  refine nx_aload_n rfl dX8_prune_0 rfl ?_
  refine nx_aload_n rfl dX8_prune_1 rfl ?_
  refine nx_callVr [] (fun r => .int (bz r)) (fun _ => (mW Γ M0 m g)) cw_8_158 cv_X8_isStore (fun r e => cM_isStore X.2.1  e) mW_m rfl rfl (Nat.le_of_ble_eq_true rfl) (Nat.le_of_ble_eq_true rfl) dX8_prune_2 rfl (fun b1 => ?_)
  refine nx_seq (C1 := fun s2 : Int32 => .inl (13, [some (.ref m)], [.int s2, .ref m], (mW Γ M0 m g))) ?_ (fun s2 => ?_)
  · refine nx_ifz_eq (t := 12) dX8_prune_5 (by decide) rfl ?_ ?_
    · refine nx_iconst dX8_prune_12 rfl ?_
      exact nx_leaf rfl
    · refine nx_iconst dX8_prune_8 rfl ?_
      refine nx_goto (q := 13) dX8_prune_9 (by decide) ?_
      exact nx_leaf rfl
  refine nx_callVr [.int s2] (fun r => .int (bz r.1)) (fun r => (mW Γ M0 m r.2)) cw_8_281 cv_X8_isRefused (fun r e => cM_isRefused X.2.1  e) mW_m rfl rfl (Nat.le_of_ble_eq_true rfl) (Nat.le_of_ble_eq_true rfl) dX8_prune_13 rfl (fun p3 => ?_)
  refine nx_ifz_eq (t := 23) dX8_prune_16 (by decide) rfl ?_ ?_
  · refine nx_aload_n rfl dX8_prune_23 rfl ?_
    refine nx_callVr [] (fun r => .int r.1) (fun r => (mW Γ M0 m r.2)) cw_8_214 cv_X8_pruneNow (fun r e => cM_pruneNow X.2.1  e) mW_m rfl rfl (Nat.le_of_ble_eq_true rfl) (Nat.le_of_ble_eq_true rfl) dX8_prune_24 rfl (fun p4 => ?_)
    exact nx_iret dX8_prune_27 rfl rfl
  · refine nx_iconst dX8_prune_19 rfl ?_
    refine nx_goto (q := 27) dX8_prune_20 (by decide) ?_
    exact nx_iret dX8_prune_27 rfl rfl
theorem cM_prune (l : Launch) {Γ : nx_G} {M0 : nx_M} {m : Nat} {u : Nat} {g : mS} {r : Int32 × mS}  (h : fM_prune u g = some r) : nx_Ct l Γ 7 yX8_prune cX8_prune 1 (some .int) [.ref m] (mW Γ M0 m g) (some (.int r.1), (mW Γ M0 m r.2)) :=
  nx_ct (out := fun r0 : Int32 × mS => (some (.int r0.1), (mW Γ M0 m r0.2))) [some (.ref m)] pn_RX8 h (Nat.le_of_ble_eq_true rfl) rfl (fun X Z _ => jM_prune  u g X Z)
theorem dX8_whyNot_0 : decode cX8_whyNot 0 = .ok (.iload_n 1, 1) := by decide +kernel
theorem dX8_whyNot_1 : decode cX8_whyNot 1 = .ok (.tableswitch 70 0 4 #[35, 42, 49, 58, 64], 35) := by decide +kernel
theorem dX8_whyNot_36 : decode cX8_whyNot 36 = .ok (.aload_n 0, 1) := by decide +kernel
theorem dX8_whyNot_37 : decode cX8_whyNot 37 = .ok (.iload_n 2, 1) := by decide +kernel
theorem dX8_whyNot_38 : decode cX8_whyNot 38 = .ok (.iload_n 3, 1) := by decide +kernel
theorem dX8_whyNot_39 : decode cX8_whyNot 39 = .ok (.invokevirtual 278, 3) := by decide +kernel
theorem dX8_whyNot_42 : decode cX8_whyNot 42 = .ok (.ireturn, 1) := by decide +kernel
theorem dX8_whyNot_43 : decode cX8_whyNot 43 = .ok (.aload_n 0, 1) := by decide +kernel
theorem dX8_whyNot_44 : decode cX8_whyNot 44 = .ok (.iload_n 2, 1) := by decide +kernel
theorem dX8_whyNot_45 : decode cX8_whyNot 45 = .ok (.iload_n 3, 1) := by decide +kernel
theorem dX8_whyNot_46 : decode cX8_whyNot 46 = .ok (.invokevirtual 290, 3) := by decide +kernel
theorem dX8_whyNot_49 : decode cX8_whyNot 49 = .ok (.ireturn, 1) := by decide +kernel
theorem dX8_whyNot_50 : decode cX8_whyNot 50 = .ok (.aload_n 0, 1) := by decide +kernel
theorem dX8_whyNot_51 : decode cX8_whyNot 51 = .ok (.iload_n 2, 1) := by decide +kernel
theorem dX8_whyNot_52 : decode cX8_whyNot 52 = .ok (.iload_n 3, 1) := by decide +kernel
theorem dX8_whyNot_53 : decode cX8_whyNot 53 = .ok (.iload 4, 2) := by decide +kernel
theorem dX8_whyNot_55 : decode cX8_whyNot 55 = .ok (.invokevirtual 293, 3) := by decide +kernel
theorem dX8_whyNot_58 : decode cX8_whyNot 58 = .ok (.ireturn, 1) := by decide +kernel
theorem dX8_whyNot_59 : decode cX8_whyNot 59 = .ok (.aload_n 0, 1) := by decide +kernel
theorem dX8_whyNot_60 : decode cX8_whyNot 60 = .ok (.iload_n 2, 1) := by decide +kernel
theorem dX8_whyNot_61 : decode cX8_whyNot 61 = .ok (.invokevirtual 296, 3) := by decide +kernel
theorem dX8_whyNot_64 : decode cX8_whyNot 64 = .ok (.ireturn, 1) := by decide +kernel
theorem dX8_whyNot_65 : decode cX8_whyNot 65 = .ok (.aload_n 0, 1) := by decide +kernel
theorem dX8_whyNot_66 : decode cX8_whyNot 66 = .ok (.iload_n 2, 1) := by decide +kernel
theorem dX8_whyNot_67 : decode cX8_whyNot 67 = .ok (.invokevirtual 302, 3) := by decide +kernel
theorem dX8_whyNot_70 : decode cX8_whyNot 70 = .ok (.ireturn, 1) := by decide +kernel
theorem dX8_whyNot_71 : decode cX8_whyNot 71 = .ok (.iconst (-1), 1) := by decide +kernel
theorem dX8_whyNot_72 : decode cX8_whyNot 72 = .ok (.ireturn, 1) := by decide +kernel
def fM_whyNot (u : Nat) (g : mS) (a1 : Int32) (a2 : Int32) (a3 : Int32) (a4 : Int32) : Option (Int32) :=
  nx_sw a1 0 [
    ((fM_whyOpen u g a2 a3).bind fun x1 =>
    some x1),
    ((fM_whyRead u g a2 a3).bind fun x2 =>
    some x2),
    ((fM_whyWrite u g a2 a3 a4).bind fun x3 =>
    some x3),
    ((fM_whyCommit u g a2).bind fun x4 =>
    some x4),
    ((fM_whyAbort u g a2).bind fun x5 =>
    some x5) ]
    (some (iz (-1)))
set_option maxRecDepth 4000 in
theorem jM_whyNot {Γ : nx_G} {M0 : nx_M} {m : Nat} (u : Nat) (g : mS) (a1 : Int32) (a2 : Int32) (a3 : Int32) (a4 : Int32)   (X : nx_X) (Z : nx_Z) : nx_J Γ X (RX8, cX8_whyNot, 5, (some .int), "whyNot", 6) Z (fun r0 : Int32 => .inr (some (.int r0), (mW Γ M0 m g))) (.inl (0, [some (.ref m), some (.int a1), some (.int a2), some (.int a3), some (.int a4)], [], (mW Γ M0 m g))) (fM_whyNot u g a1 a2 a3 a4) := by
  unfold fM_whyNot
  refine nx_iload_n rfl dX8_whyNot_0 rfl ?_
  refine nx_tsw (td := 71) dX8_whyNot_1 rfl (by decide) ?_ ?_
  · refine nx_iconst dX8_whyNot_71 rfl ?_
    exact nx_iret dX8_whyNot_72 rfl rfl
  refine nx_swl_c 36 (by decide) ?_ ?_
  · refine nx_aload_n rfl dX8_whyNot_36 rfl ?_
    refine nx_iload_n rfl dX8_whyNot_37 rfl ?_
    refine nx_iload_n rfl dX8_whyNot_38 rfl ?_
    refine nx_callVr [.int a2, .int a3] (fun r => .int r) (fun _ => (mW Γ M0 m g)) cw_8_278 cv_X8_whyOpen (fun r e => cM_whyOpen X.2.1  e) mW_m rfl rfl (Nat.le_of_ble_eq_true rfl) (Nat.le_of_ble_eq_true rfl) dX8_whyNot_39 rfl (fun x1 => ?_)
    exact nx_iret dX8_whyNot_42 rfl rfl
  refine nx_swl_c 43 (by decide) ?_ ?_
  · refine nx_aload_n rfl dX8_whyNot_43 rfl ?_
    refine nx_iload_n rfl dX8_whyNot_44 rfl ?_
    refine nx_iload_n rfl dX8_whyNot_45 rfl ?_
    refine nx_callVr [.int a2, .int a3] (fun r => .int r) (fun _ => (mW Γ M0 m g)) cw_8_290 cv_X8_whyRead (fun r e => cM_whyRead X.2.1  e) mW_m rfl rfl (Nat.le_of_ble_eq_true rfl) (Nat.le_of_ble_eq_true rfl) dX8_whyNot_46 rfl (fun x2 => ?_)
    exact nx_iret dX8_whyNot_49 rfl rfl
  refine nx_swl_c 50 (by decide) ?_ ?_
  · refine nx_aload_n rfl dX8_whyNot_50 rfl ?_
    refine nx_iload_n rfl dX8_whyNot_51 rfl ?_
    refine nx_iload_n rfl dX8_whyNot_52 rfl ?_
    refine nx_iload rfl dX8_whyNot_53 rfl ?_
    refine nx_callVr [.int a2, .int a3, .int a4] (fun r => .int r) (fun _ => (mW Γ M0 m g)) cw_8_293 cv_X8_whyWrite (fun r e => cM_whyWrite X.2.1  e) mW_m rfl rfl (Nat.le_of_ble_eq_true rfl) (Nat.le_of_ble_eq_true rfl) dX8_whyNot_55 rfl (fun x3 => ?_)
    exact nx_iret dX8_whyNot_58 rfl rfl
  refine nx_swl_c 59 (by decide) ?_ ?_
  · refine nx_aload_n rfl dX8_whyNot_59 rfl ?_
    refine nx_iload_n rfl dX8_whyNot_60 rfl ?_
    refine nx_callVr [.int a2] (fun r => .int r) (fun _ => (mW Γ M0 m g)) cw_8_296 cv_X8_whyCommit (fun r e => cM_whyCommit X.2.1  e) mW_m rfl rfl (Nat.le_of_ble_eq_true rfl) (Nat.le_of_ble_eq_true rfl) dX8_whyNot_61 rfl (fun x4 => ?_)
    exact nx_iret dX8_whyNot_64 rfl rfl
  refine nx_swl_c 65 (by decide) ?_ ?_
  · refine nx_aload_n rfl dX8_whyNot_65 rfl ?_
    refine nx_iload_n rfl dX8_whyNot_66 rfl ?_
    refine nx_callVr [.int a2] (fun r => .int r) (fun _ => (mW Γ M0 m g)) cw_8_302 cv_X8_whyAbort (fun r e => cM_whyAbort X.2.1  e) mW_m rfl rfl (Nat.le_of_ble_eq_true rfl) (Nat.le_of_ble_eq_true rfl) dX8_whyNot_67 rfl (fun x5 => ?_)
    exact nx_iret dX8_whyNot_70 rfl rfl
  exact nx_swl_e
theorem cM_whyNot (l : Launch) {Γ : nx_G} {M0 : nx_M} {m : Nat} {u : Nat} {g : mS} {a1 : Int32} {a2 : Int32} {a3 : Int32} {a4 : Int32} {r : Int32}  (h : fM_whyNot u g a1 a2 a3 a4 = some r) : nx_Ct l Γ 6 yX8_whyNot cX8_whyNot 5 (some .int) [.ref m, .int a1, .int a2, .int a3, .int a4] (mW Γ M0 m g) (some (.int r), (mW Γ M0 m g)) :=
  nx_ct (out := fun r0 : Int32 => (some (.int r0), (mW Γ M0 m g))) [some (.ref m), some (.int a1), some (.int a2), some (.int a3), some (.int a4)] pn_RX8 h (Nat.le_of_ble_eq_true rfl) rfl (fun X Z _ => jM_whyNot  u g a1 a2 a3 a4 X Z)
theorem dX8_doNow_0 : decode cX8_doNow 0 = .ok (.iload_n 1, 1) := by decide +kernel
theorem dX8_doNow_1 : decode cX8_doNow 1 = .ok (.tableswitch 85 0 4 #[35, 45, 55, 67, 76], 35) := by decide +kernel
theorem dX8_doNow_36 : decode cX8_doNow 36 = .ok (.aload_n 0, 1) := by decide +kernel
theorem dX8_doNow_37 : decode cX8_doNow 37 = .ok (.iload_n 2, 1) := by decide +kernel
theorem dX8_doNow_38 : decode cX8_doNow 38 = .ok (.iload_n 3, 1) := by decide +kernel
theorem dX8_doNow_39 : decode cX8_doNow 39 = .ok (.invokevirtual 266, 3) := by decide +kernel
theorem dX8_doNow_42 : decode cX8_doNow 42 = .ok (.pop, 1) := by decide +kernel
theorem dX8_doNow_43 : decode cX8_doNow 43 = .ok (.goto 48, 3) := by decide +kernel
theorem dX8_doNow_46 : decode cX8_doNow 46 = .ok (.aload_n 0, 1) := by decide +kernel
theorem dX8_doNow_47 : decode cX8_doNow 47 = .ok (.iload_n 2, 1) := by decide +kernel
theorem dX8_doNow_48 : decode cX8_doNow 48 = .ok (.iload_n 3, 1) := by decide +kernel
theorem dX8_doNow_49 : decode cX8_doNow 49 = .ok (.invokevirtual 269, 3) := by decide +kernel
theorem dX8_doNow_52 : decode cX8_doNow 52 = .ok (.pop, 1) := by decide +kernel
theorem dX8_doNow_53 : decode cX8_doNow 53 = .ok (.goto 38, 3) := by decide +kernel
theorem dX8_doNow_56 : decode cX8_doNow 56 = .ok (.aload_n 0, 1) := by decide +kernel
theorem dX8_doNow_57 : decode cX8_doNow 57 = .ok (.iload_n 2, 1) := by decide +kernel
theorem dX8_doNow_58 : decode cX8_doNow 58 = .ok (.iload_n 3, 1) := by decide +kernel
theorem dX8_doNow_59 : decode cX8_doNow 59 = .ok (.iload 4, 2) := by decide +kernel
theorem dX8_doNow_61 : decode cX8_doNow 61 = .ok (.invokevirtual 272, 3) := by decide +kernel
theorem dX8_doNow_64 : decode cX8_doNow 64 = .ok (.pop, 1) := by decide +kernel
theorem dX8_doNow_65 : decode cX8_doNow 65 = .ok (.goto 26, 3) := by decide +kernel
theorem dX8_doNow_68 : decode cX8_doNow 68 = .ok (.aload_n 0, 1) := by decide +kernel
theorem dX8_doNow_69 : decode cX8_doNow 69 = .ok (.iload_n 2, 1) := by decide +kernel
theorem dX8_doNow_70 : decode cX8_doNow 70 = .ok (.invokevirtual 299, 3) := by decide +kernel
theorem dX8_doNow_73 : decode cX8_doNow 73 = .ok (.pop, 1) := by decide +kernel
theorem dX8_doNow_74 : decode cX8_doNow 74 = .ok (.goto 17, 3) := by decide +kernel
theorem dX8_doNow_77 : decode cX8_doNow 77 = .ok (.aload_n 0, 1) := by decide +kernel
theorem dX8_doNow_78 : decode cX8_doNow 78 = .ok (.iload_n 2, 1) := by decide +kernel
theorem dX8_doNow_79 : decode cX8_doNow 79 = .ok (.invokevirtual 223, 3) := by decide +kernel
theorem dX8_doNow_82 : decode cX8_doNow 82 = .ok (.pop, 1) := by decide +kernel
theorem dX8_doNow_83 : decode cX8_doNow 83 = .ok (.goto 8, 3) := by decide +kernel
theorem dX8_doNow_86 : decode cX8_doNow 86 = .ok (.aload_n 0, 1) := by decide +kernel
theorem dX8_doNow_87 : decode cX8_doNow 87 = .ok (.invokevirtual 214, 3) := by decide +kernel
theorem dX8_doNow_90 : decode cX8_doNow 90 = .ok (.pop, 1) := by decide +kernel
theorem dX8_doNow_91 : decode cX8_doNow 91 = .ok (.return_, 1) := by decide +kernel
def fM_doNow (u : Nat) (g : mS) (a1 : Int32) (a2 : Int32) (a3 : Int32) (a4 : Int32) : Option (mS) :=
  nx_sw a1 0 [
    ((fM_openNow u g a2 a3).bind fun p2 =>
    some p2.2),
    ((fM_readNow u g a2 a3).bind fun p3 =>
    some p3.2),
    ((fM_writeNow u g a2 a3 a4).bind fun p4 =>
    some p4.2),
    ((fM_commitNow u g a2).bind fun p5 =>
    some p5.2),
    ((fM_fall u g a2).bind fun p6 =>
    some p6.2) ]
    ((fM_pruneNow u g).bind fun p1 =>
    some p1.2)
set_option maxRecDepth 4000 in
theorem jM_doNow {Γ : nx_G} {M0 : nx_M} {m : Nat} (u : Nat) (g : mS) (a1 : Int32) (a2 : Int32) (a3 : Int32) (a4 : Int32)   (X : nx_X) (Z : nx_Z) : nx_J Γ X (RX8, cX8_doNow, 5, none, "doNow", 10) Z (fun r0 : mS => .inr (none, (mW Γ M0 m r0))) (.inl (0, [some (.ref m), some (.int a1), some (.int a2), some (.int a3), some (.int a4)], [], (mW Γ M0 m g))) (fM_doNow u g a1 a2 a3 a4) := by
  unfold fM_doNow
  refine nx_iload_n rfl dX8_doNow_0 rfl ?_
  refine nx_tsw (td := 86) dX8_doNow_1 rfl (by decide) ?_ ?_
  · refine nx_aload_n rfl dX8_doNow_86 rfl ?_
    refine nx_callVr [] (fun r => .int r.1) (fun r => (mW Γ M0 m r.2)) cw_8_214 cv_X8_pruneNow (fun r e => cM_pruneNow X.2.1  e) mW_m rfl rfl (Nat.le_of_ble_eq_true rfl) (Nat.le_of_ble_eq_true rfl) dX8_doNow_87 rfl (fun p1 => ?_)
    refine nx_pop rfl dX8_doNow_90 rfl ?_
    exact nx_vret dX8_doNow_91 rfl rfl
  refine nx_swl_c 36 (by decide) ?_ ?_
  · refine nx_aload_n rfl dX8_doNow_36 rfl ?_
    refine nx_iload_n rfl dX8_doNow_37 rfl ?_
    refine nx_iload_n rfl dX8_doNow_38 rfl ?_
    refine nx_callVr [.int a2, .int a3] (fun r => .int r.1) (fun r => (mW Γ M0 m r.2)) cw_8_266 cv_X8_openNow (fun r e => cM_openNow X.2.1  e) mW_m rfl rfl (Nat.le_of_ble_eq_true rfl) (Nat.le_of_ble_eq_true rfl) dX8_doNow_39 rfl (fun p2 => ?_)
    refine nx_pop rfl dX8_doNow_42 rfl ?_
    refine nx_goto (q := 91) dX8_doNow_43 (by decide) ?_
    exact nx_vret dX8_doNow_91 rfl rfl
  refine nx_swl_c 46 (by decide) ?_ ?_
  · refine nx_aload_n rfl dX8_doNow_46 rfl ?_
    refine nx_iload_n rfl dX8_doNow_47 rfl ?_
    refine nx_iload_n rfl dX8_doNow_48 rfl ?_
    refine nx_callVr [.int a2, .int a3] (fun r => .int r.1) (fun r => (mW Γ M0 m r.2)) cw_8_269 cv_X8_readNow (fun r e => cM_readNow X.2.1  e) mW_m rfl rfl (Nat.le_of_ble_eq_true rfl) (Nat.le_of_ble_eq_true rfl) dX8_doNow_49 rfl (fun p3 => ?_)
    refine nx_pop rfl dX8_doNow_52 rfl ?_
    refine nx_goto (q := 91) dX8_doNow_53 (by decide) ?_
    exact nx_vret dX8_doNow_91 rfl rfl
  refine nx_swl_c 56 (by decide) ?_ ?_
  · refine nx_aload_n rfl dX8_doNow_56 rfl ?_
    refine nx_iload_n rfl dX8_doNow_57 rfl ?_
    refine nx_iload_n rfl dX8_doNow_58 rfl ?_
    refine nx_iload rfl dX8_doNow_59 rfl ?_
    refine nx_callVr [.int a2, .int a3, .int a4] (fun r => .int r.1) (fun r => (mW Γ M0 m r.2)) cw_8_272 cv_X8_writeNow (fun r e => cM_writeNow X.2.1  e) mW_m rfl rfl (Nat.le_of_ble_eq_true rfl) (Nat.le_of_ble_eq_true rfl) dX8_doNow_61 rfl (fun p4 => ?_)
    refine nx_pop rfl dX8_doNow_64 rfl ?_
    refine nx_goto (q := 91) dX8_doNow_65 (by decide) ?_
    exact nx_vret dX8_doNow_91 rfl rfl
  refine nx_swl_c 68 (by decide) ?_ ?_
  · refine nx_aload_n rfl dX8_doNow_68 rfl ?_
    refine nx_iload_n rfl dX8_doNow_69 rfl ?_
    refine nx_callVr [.int a2] (fun r => .int r.1) (fun r => (mW Γ M0 m r.2)) cw_8_299 cv_X8_commitNow (fun r e => cM_commitNow X.2.1  e) mW_m rfl rfl (Nat.le_of_ble_eq_true rfl) (Nat.le_of_ble_eq_true rfl) dX8_doNow_70 rfl (fun p5 => ?_)
    refine nx_pop rfl dX8_doNow_73 rfl ?_
    refine nx_goto (q := 91) dX8_doNow_74 (by decide) ?_
    exact nx_vret dX8_doNow_91 rfl rfl
  refine nx_swl_c 77 (by decide) ?_ ?_
  · refine nx_aload_n rfl dX8_doNow_77 rfl ?_
    refine nx_iload_n rfl dX8_doNow_78 rfl ?_
    refine nx_callVr [.int a2] (fun r => .int r.1) (fun r => (mW Γ M0 m r.2)) cw_8_223 cv_X8_fall (fun r e => cM_fall X.2.1  e) mW_m rfl rfl (Nat.le_of_ble_eq_true rfl) (Nat.le_of_ble_eq_true rfl) dX8_doNow_79 rfl (fun p6 => ?_)
    refine nx_pop rfl dX8_doNow_82 rfl ?_
    refine nx_goto (q := 91) dX8_doNow_83 (by decide) ?_
    exact nx_vret dX8_doNow_91 rfl rfl
  exact nx_swl_e
theorem cM_doNow (l : Launch) {Γ : nx_G} {M0 : nx_M} {m : Nat} {u : Nat} {g : mS} {a1 : Int32} {a2 : Int32} {a3 : Int32} {a4 : Int32} {r : mS}  (h : fM_doNow u g a1 a2 a3 a4 = some r) : nx_Ct l Γ 10 yX8_doNow cX8_doNow 5 none [.ref m, .int a1, .int a2, .int a3, .int a4] (mW Γ M0 m g) (none, (mW Γ M0 m r)) :=
  nx_ct (out := fun r0 : mS => (none, (mW Γ M0 m r0))) [some (.ref m), some (.int a1), some (.int a2), some (.int a3), some (.int a4)] pn_RX8 h (Nat.le_of_ble_eq_true rfl) rfl (fun X Z _ => jM_doNow  u g a1 a2 a3 a4 X Z)
theorem dX8_tryOne_0 : decode cX8_tryOne 0 = .ok (.aload_n 0, 1) := by decide +kernel
theorem dX8_tryOne_1 : decode cX8_tryOne 1 = .ok (.iload_n 1, 1) := by decide +kernel
theorem dX8_tryOne_2 : decode cX8_tryOne 2 = .ok (.iload_n 2, 1) := by decide +kernel
theorem dX8_tryOne_3 : decode cX8_tryOne 3 = .ok (.iload_n 3, 1) := by decide +kernel
theorem dX8_tryOne_4 : decode cX8_tryOne 4 = .ok (.iload 4, 2) := by decide +kernel
theorem dX8_tryOne_6 : decode cX8_tryOne 6 = .ok (.invokevirtual 311, 3) := by decide +kernel
theorem dX8_tryOne_9 : decode cX8_tryOne 9 = .ok (.iconst (-1), 1) := by decide +kernel
theorem dX8_tryOne_10 : decode cX8_tryOne 10 = .ok (.if_icmp .eq 5, 3) := by decide +kernel
theorem dX8_tryOne_13 : decode cX8_tryOne 13 = .ok (.iconst 0, 1) := by decide +kernel
theorem dX8_tryOne_14 : decode cX8_tryOne 14 = .ok (.ireturn, 1) := by decide +kernel
theorem dX8_tryOne_15 : decode cX8_tryOne 15 = .ok (.aload_n 0, 1) := by decide +kernel
theorem dX8_tryOne_16 : decode cX8_tryOne 16 = .ok (.getfield 168, 3) := by decide +kernel
theorem dX8_tryOne_19 : decode cX8_tryOne 19 = .ok (.ifCond .ne 7, 3) := by decide +kernel
theorem dX8_tryOne_22 : decode cX8_tryOne 22 = .ok (.aload_n 0, 1) := by decide +kernel
theorem dX8_tryOne_23 : decode cX8_tryOne 23 = .ok (.invokevirtual 275, 3) := by decide +kernel
theorem dX8_tryOne_26 : decode cX8_tryOne 26 = .ok (.aload_n 0, 1) := by decide +kernel
theorem dX8_tryOne_27 : decode cX8_tryOne 27 = .ok (.iload_n 1, 1) := by decide +kernel
theorem dX8_tryOne_28 : decode cX8_tryOne 28 = .ok (.iload_n 2, 1) := by decide +kernel
theorem dX8_tryOne_29 : decode cX8_tryOne 29 = .ok (.iload_n 3, 1) := by decide +kernel
theorem dX8_tryOne_30 : decode cX8_tryOne 30 = .ok (.iload 4, 2) := by decide +kernel
theorem dX8_tryOne_32 : decode cX8_tryOne 32 = .ok (.invokevirtual 315, 3) := by decide +kernel
theorem dX8_tryOne_35 : decode cX8_tryOne 35 = .ok (.iconst 1, 1) := by decide +kernel
theorem dX8_tryOne_36 : decode cX8_tryOne 36 = .ok (.ireturn, 1) := by decide +kernel
def fM_tryOne (u : Nat) (g : mS) (a1 : Int32) (a2 : Int32) (a3 : Int32) (a4 : Int32) : Option (Bool × mS) :=
  (fM_whyNot u g a1 a2 a3 a4).bind fun x1 =>
  if x1 = (iz (-1)) then
    (if (g.1 0 15) = iz 0 then
       (fM_keep u g).bind fun g2 =>
       some g2
     else
       some g : Option (mS)).bind fun s3 =>
    (fM_doNow u s3 a1 a2 a3 a4).bind fun g4 =>
    some (true, g4)
  else
    some (false, g)
set_option maxRecDepth 4000 in
theorem jM_tryOne {Γ : nx_G} {M0 : nx_M} {m : Nat} (u : Nat) (g : mS) (a1 : Int32) (a2 : Int32) (a3 : Int32) (a4 : Int32)   (X : nx_X) (Z : nx_Z) : nx_J Γ X (RX8, cX8_tryOne, 5, (some .boolean), "tryOne", 11) Z (fun r0 : Bool × mS => .inr (some (.int (bz r0.1)), (mW Γ M0 m r0.2))) (.inl (0, [some (.ref m), some (.int a1), some (.int a2), some (.int a3), some (.int a4)], [], (mW Γ M0 m g))) (fM_tryOne u g a1 a2 a3 a4) := by
  unfold fM_tryOne
  refine nx_aload_n rfl dX8_tryOne_0 rfl ?_
  refine nx_iload_n rfl dX8_tryOne_1 rfl ?_
  refine nx_iload_n rfl dX8_tryOne_2 rfl ?_
  refine nx_iload_n rfl dX8_tryOne_3 rfl ?_
  refine nx_iload rfl dX8_tryOne_4 rfl ?_
  refine nx_callVr [.int a1, .int a2, .int a3, .int a4] (fun r => .int r) (fun _ => (mW Γ M0 m g)) cw_8_311 cv_X8_whyNot (fun r e => cM_whyNot X.2.1  e) mW_m rfl rfl (Nat.le_of_ble_eq_true rfl) (Nat.le_of_ble_eq_true rfl) dX8_tryOne_6 rfl (fun x1 => ?_)
  refine nx_iconst dX8_tryOne_9 rfl ?_
  refine nx_icmp_eq (t := 15) dX8_tryOne_10 (by decide) rfl ?_ ?_
  · refine nx_aload_n rfl dX8_tryOne_15 rfl ?_
    refine nx_getf fl_8_168 mW_m rfl dX8_tryOne_16 rfl ?_
    refine nx_seq (C1 := fun s3 : mS => .inl (26, [some (.ref m), some (.int a1), some (.int a2), some (.int a3), some (.int a4)], [], (mW Γ M0 m s3))) ?_ (fun s3 => ?_)
    · refine nx_if_ne (t := 26) dX8_tryOne_19 (by decide) rfl ?_ ?_
      · exact nx_leaf rfl
      · refine nx_aload_n rfl dX8_tryOne_22 rfl ?_
        refine nx_callVv [] (fun r => (mW Γ M0 m r)) cw_8_275 cv_X8_keep (fun r e => cM_keep X.2.1  e) mW_m rfl rfl (Nat.le_of_ble_eq_true rfl) (Nat.le_of_ble_eq_true rfl) dX8_tryOne_23 rfl (fun g2 => ?_)
        exact nx_leaf rfl
    refine nx_aload_n rfl dX8_tryOne_26 rfl ?_
    refine nx_iload_n rfl dX8_tryOne_27 rfl ?_
    refine nx_iload_n rfl dX8_tryOne_28 rfl ?_
    refine nx_iload_n rfl dX8_tryOne_29 rfl ?_
    refine nx_iload rfl dX8_tryOne_30 rfl ?_
    refine nx_callVv [.int a1, .int a2, .int a3, .int a4] (fun r => (mW Γ M0 m r)) cw_8_315 cv_X8_doNow (fun r e => cM_doNow X.2.1  e) mW_m rfl rfl (Nat.le_of_ble_eq_true rfl) (Nat.le_of_ble_eq_true rfl) dX8_tryOne_32 rfl (fun g4 => ?_)
    refine nx_iconst dX8_tryOne_35 rfl ?_
    exact nx_zret (b := true) dX8_tryOne_36 rfl rfl
  · refine nx_iconst dX8_tryOne_13 rfl ?_
    exact nx_zret (b := false) dX8_tryOne_14 rfl rfl
theorem cM_tryOne (l : Launch) {Γ : nx_G} {M0 : nx_M} {m : Nat} {u : Nat} {g : mS} {a1 : Int32} {a2 : Int32} {a3 : Int32} {a4 : Int32} {r : Bool × mS}  (h : fM_tryOne u g a1 a2 a3 a4 = some r) : nx_Ct l Γ 11 yX8_tryOne cX8_tryOne 5 (some .boolean) [.ref m, .int a1, .int a2, .int a3, .int a4] (mW Γ M0 m g) (some (.int (bz r.1)), (mW Γ M0 m r.2)) :=
  nx_ct (out := fun r0 : Bool × mS => (some (.int (bz r0.1)), (mW Γ M0 m r0.2))) [some (.ref m), some (.int a1), some (.int a2), some (.int a3), some (.int a4)] pn_RX8 h (Nat.le_of_ble_eq_true rfl) rfl (fun X Z _ => jM_tryOne  u g a1 a2 a3 a4 X Z)
theorem dX8_draw_0 : decode cX8_draw 0 = .ok (.aload_n 0, 1) := by decide +kernel
theorem dX8_draw_1 : decode cX8_draw 1 = .ok (.aload_n 0, 1) := by decide +kernel
theorem dX8_draw_2 : decode cX8_draw 2 = .ok (.getfield 318, 3) := by decide +kernel
theorem dX8_draw_5 : decode cX8_draw 5 = .ok (.ldc2_w 322, 3) := by decide +kernel
theorem dX8_draw_8 : decode cX8_draw 8 = .ok (.lmul, 1) := by decide +kernel
theorem dX8_draw_9 : decode cX8_draw 9 = .ok (.ldc2_w 324, 3) := by decide +kernel
theorem dX8_draw_12 : decode cX8_draw 12 = .ok (.ladd, 1) := by decide +kernel
theorem dX8_draw_13 : decode cX8_draw 13 = .ok (.putfield 318, 3) := by decide +kernel
theorem dX8_draw_16 : decode cX8_draw 16 = .ok (.aload_n 0, 1) := by decide +kernel
theorem dX8_draw_17 : decode cX8_draw 17 = .ok (.getfield 318, 3) := by decide +kernel
theorem dX8_draw_20 : decode cX8_draw 20 = .ok (.bipush 33, 2) := by decide +kernel
theorem dX8_draw_22 : decode cX8_draw 22 = .ok (.lushr, 1) := by decide +kernel
theorem dX8_draw_23 : decode cX8_draw 23 = .ok (.iload_n 1, 1) := by decide +kernel
theorem dX8_draw_24 : decode cX8_draw 24 = .ok (.i2l, 1) := by decide +kernel
theorem dX8_draw_25 : decode cX8_draw 25 = .ok (.lrem, 1) := by decide +kernel
theorem dX8_draw_26 : decode cX8_draw 26 = .ok (.l2i, 1) := by decide +kernel
theorem dX8_draw_27 : decode cX8_draw 27 = .ok (.ireturn, 1) := by decide +kernel
def fM_draw (u : Nat) (g : mS) (a1 : Int32) : Option (Int32 × mS) :=
  (some (mFl g ((g.2 * (6364136223846793005 : Int64)) + (1442695040888963407 : Int64)))).bind fun g1 =>
  (nx_rml ((g1.2.toUInt64 >>> ((iz 33).toInt64.toUInt64 &&& Int64.toUInt64 63)).toInt64) a1.toInt64).bind fun x2 =>
  some (x2.toInt32, g1)
set_option maxRecDepth 4000 in
theorem jM_draw {Γ : nx_G} {M0 : nx_M} {m : Nat} (u : Nat) (g : mS) (a1 : Int32)   (X : nx_X) (Z : nx_Z) : nx_J Γ X (RX8, cX8_draw, 2, (some .int), "draw", 1) Z (fun r0 : Int32 × mS => .inr (some (.int r0.1), (mW Γ M0 m r0.2))) (.inl (0, [some (.ref m), some (.int a1)], [], (mW Γ M0 m g))) (fM_draw u g a1) := by
  unfold fM_draw
  refine nx_aload_n rfl dX8_draw_0 rfl ?_
  refine nx_aload_n rfl dX8_draw_1 rfl ?_
  refine nx_getf fl_8_318 mW_m rfl dX8_draw_2 rfl ?_
  refine nx_ldc2 wd_1554 dX8_draw_5 rfl ?_
  refine nx_lmul dX8_draw_8 rfl ?_
  refine nx_ldc2 wd_1555 dX8_draw_9 rfl ?_
  refine nx_ladd dX8_draw_12 rfl ?_
  refine m_putl fl_8_318 ft_8_20 dX8_draw_13 rfl (fun g1 => ?_)
  refine nx_aload_n rfl dX8_draw_16 rfl ?_
  refine nx_getf fl_8_318 mW_m rfl dX8_draw_17 rfl ?_
  refine nx_bipush (by decide +kernel) dX8_draw_20 rfl ?_
  refine nx_lushr dX8_draw_22 rfl ?_
  refine nx_iload_n rfl dX8_draw_23 rfl ?_
  refine nx_i2l dX8_draw_24 rfl ?_
  refine nx_lrem dX8_draw_25 rfl (fun x2 => ?_)
  refine nx_l2i dX8_draw_26 rfl ?_
  exact nx_iret dX8_draw_27 rfl rfl
theorem cM_draw (l : Launch) {Γ : nx_G} {M0 : nx_M} {m : Nat} {u : Nat} {g : mS} {a1 : Int32} {r : Int32 × mS}  (h : fM_draw u g a1 = some r) : nx_Ct l Γ 1 yX8_draw cX8_draw 2 (some .int) [.ref m, .int a1] (mW Γ M0 m g) (some (.int r.1), (mW Γ M0 m r.2)) :=
  nx_ct (out := fun r0 : Int32 × mS => (some (.int r0.1), (mW Γ M0 m r0.2))) [some (.ref m), some (.int a1)] pn_RX8 h (Nat.le_of_ble_eq_true rfl) rfl (fun X Z _ => jM_draw  u g a1 X Z)
theorem dX8_drawYear_0 : decode cX8_drawYear 0 = .ok (.aload_n 0, 1) := by decide +kernel
theorem dX8_drawYear_1 : decode cX8_drawYear 1 = .ok (.bipush 8, 2) := by decide +kernel
theorem dX8_drawYear_3 : decode cX8_drawYear 3 = .ok (.invokevirtual 326, 3) := by decide +kernel
theorem dX8_drawYear_6 : decode cX8_drawYear 6 = .ok (.istore_n 1, 1) := by decide +kernel
theorem dX8_drawYear_7 : decode cX8_drawYear 7 = .ok (.aload_n 0, 1) := by decide +kernel
theorem dX8_drawYear_8 : decode cX8_drawYear 8 = .ok (.bipush 8, 2) := by decide +kernel
theorem dX8_drawYear_10 : decode cX8_drawYear 10 = .ok (.invokevirtual 326, 3) := by decide +kernel
theorem dX8_drawYear_13 : decode cX8_drawYear 13 = .ok (.istore_n 2, 1) := by decide +kernel
theorem dX8_drawYear_14 : decode cX8_drawYear 14 = .ok (.iload_n 1, 1) := by decide +kernel
theorem dX8_drawYear_15 : decode cX8_drawYear 15 = .ok (.ifCond .ne 19, 3) := by decide +kernel
theorem dX8_drawYear_18 : decode cX8_drawYear 18 = .ok (.aload_n 0, 1) := by decide +kernel
theorem dX8_drawYear_19 : decode cX8_drawYear 19 = .ok (.iconst 0, 1) := by decide +kernel
theorem dX8_drawYear_20 : decode cX8_drawYear 20 = .ok (.iload_n 2, 1) := by decide +kernel
theorem dX8_drawYear_21 : decode cX8_drawYear 21 = .ok (.aload_n 0, 1) := by decide +kernel
theorem dX8_drawYear_22 : decode cX8_drawYear 22 = .ok (.iconst 2, 1) := by decide +kernel
theorem dX8_drawYear_23 : decode cX8_drawYear 23 = .ok (.invokevirtual 326, 3) := by decide +kernel
theorem dX8_drawYear_26 : decode cX8_drawYear 26 = .ok (.iconst 0, 1) := by decide +kernel
theorem dX8_drawYear_27 : decode cX8_drawYear 27 = .ok (.invokevirtual 329, 3) := by decide +kernel
theorem dX8_drawYear_30 : decode cX8_drawYear 30 = .ok (.pop, 1) := by decide +kernel
theorem dX8_drawYear_31 : decode cX8_drawYear 31 = .ok (.goto 77, 3) := by decide +kernel
theorem dX8_drawYear_34 : decode cX8_drawYear 34 = .ok (.iload_n 1, 1) := by decide +kernel
theorem dX8_drawYear_35 : decode cX8_drawYear 35 = .ok (.iconst 3, 1) := by decide +kernel
theorem dX8_drawYear_36 : decode cX8_drawYear 36 = .ok (.if_icmp .ge 22, 3) := by decide +kernel
theorem dX8_drawYear_39 : decode cX8_drawYear 39 = .ok (.aload_n 0, 1) := by decide +kernel
theorem dX8_drawYear_40 : decode cX8_drawYear 40 = .ok (.iconst 1, 1) := by decide +kernel
theorem dX8_drawYear_41 : decode cX8_drawYear 41 = .ok (.iload_n 2, 1) := by decide +kernel
theorem dX8_drawYear_42 : decode cX8_drawYear 42 = .ok (.aload_n 0, 1) := by decide +kernel
theorem dX8_drawYear_43 : decode cX8_drawYear 43 = .ok (.aload_n 0, 1) := by decide +kernel
theorem dX8_drawYear_44 : decode cX8_drawYear 44 = .ok (.getfield 142, 3) := by decide +kernel
theorem dX8_drawYear_47 : decode cX8_drawYear 47 = .ok (.invokevirtual 326, 3) := by decide +kernel
theorem dX8_drawYear_50 : decode cX8_drawYear 50 = .ok (.iconst 0, 1) := by decide +kernel
theorem dX8_drawYear_51 : decode cX8_drawYear 51 = .ok (.invokevirtual 329, 3) := by decide +kernel
theorem dX8_drawYear_54 : decode cX8_drawYear 54 = .ok (.pop, 1) := by decide +kernel
theorem dX8_drawYear_55 : decode cX8_drawYear 55 = .ok (.goto 53, 3) := by decide +kernel
theorem dX8_drawYear_58 : decode cX8_drawYear 58 = .ok (.iload_n 1, 1) := by decide +kernel
theorem dX8_drawYear_59 : decode cX8_drawYear 59 = .ok (.iconst 5, 1) := by decide +kernel
theorem dX8_drawYear_60 : decode cX8_drawYear 60 = .ok (.if_icmp .ge 29, 3) := by decide +kernel
theorem dX8_drawYear_63 : decode cX8_drawYear 63 = .ok (.aload_n 0, 1) := by decide +kernel
theorem dX8_drawYear_64 : decode cX8_drawYear 64 = .ok (.aload_n 0, 1) := by decide +kernel
theorem dX8_drawYear_65 : decode cX8_drawYear 65 = .ok (.getfield 142, 3) := by decide +kernel
theorem dX8_drawYear_68 : decode cX8_drawYear 68 = .ok (.invokevirtual 326, 3) := by decide +kernel
theorem dX8_drawYear_71 : decode cX8_drawYear 71 = .ok (.istore_n 3, 1) := by decide +kernel
theorem dX8_drawYear_72 : decode cX8_drawYear 72 = .ok (.aload_n 0, 1) := by decide +kernel
theorem dX8_drawYear_73 : decode cX8_drawYear 73 = .ok (.iconst 2, 1) := by decide +kernel
theorem dX8_drawYear_74 : decode cX8_drawYear 74 = .ok (.iload_n 2, 1) := by decide +kernel
theorem dX8_drawYear_75 : decode cX8_drawYear 75 = .ok (.iload_n 3, 1) := by decide +kernel
theorem dX8_drawYear_76 : decode cX8_drawYear 76 = .ok (.aload_n 0, 1) := by decide +kernel
theorem dX8_drawYear_77 : decode cX8_drawYear 77 = .ok (.bipush 100, 2) := by decide +kernel
theorem dX8_drawYear_79 : decode cX8_drawYear 79 = .ok (.invokevirtual 326, 3) := by decide +kernel
theorem dX8_drawYear_82 : decode cX8_drawYear 82 = .ok (.invokevirtual 329, 3) := by decide +kernel
theorem dX8_drawYear_85 : decode cX8_drawYear 85 = .ok (.pop, 1) := by decide +kernel
theorem dX8_drawYear_86 : decode cX8_drawYear 86 = .ok (.goto 22, 3) := by decide +kernel
theorem dX8_drawYear_89 : decode cX8_drawYear 89 = .ok (.aload_n 0, 1) := by decide +kernel
theorem dX8_drawYear_90 : decode cX8_drawYear 90 = .ok (.iload_n 1, 1) := by decide +kernel
theorem dX8_drawYear_91 : decode cX8_drawYear 91 = .ok (.bipush 7, 2) := by decide +kernel
theorem dX8_drawYear_93 : decode cX8_drawYear 93 = .ok (.if_icmp .ge 7, 3) := by decide +kernel
theorem dX8_drawYear_96 : decode cX8_drawYear 96 = .ok (.iconst 3, 1) := by decide +kernel
theorem dX8_drawYear_97 : decode cX8_drawYear 97 = .ok (.goto 4, 3) := by decide +kernel
theorem dX8_drawYear_100 : decode cX8_drawYear 100 = .ok (.iconst 4, 1) := by decide +kernel
theorem dX8_drawYear_101 : decode cX8_drawYear 101 = .ok (.iload_n 2, 1) := by decide +kernel
theorem dX8_drawYear_102 : decode cX8_drawYear 102 = .ok (.iconst 0, 1) := by decide +kernel
theorem dX8_drawYear_103 : decode cX8_drawYear 103 = .ok (.iconst 0, 1) := by decide +kernel
theorem dX8_drawYear_104 : decode cX8_drawYear 104 = .ok (.invokevirtual 329, 3) := by decide +kernel
theorem dX8_drawYear_107 : decode cX8_drawYear 107 = .ok (.pop, 1) := by decide +kernel
theorem dX8_drawYear_108 : decode cX8_drawYear 108 = .ok (.return_, 1) := by decide +kernel
def fM_drawYear (u : Nat) (g : mS) : Option (mS) :=
  (fM_draw u g (iz 8)).bind fun p1 =>
  (fM_draw u p1.2 (iz 8)).bind fun p2 =>
  if p1.1 = iz 0 then
    (fM_draw u p2.2 (iz 2)).bind fun p10 =>
    (fM_tryOne u p10.2 (iz 0) p2.1 p10.1 (iz 0)).bind fun p11 =>
    some p11.2
  else
    if (iz 3) ≤ p1.1 then
      if (iz 5) ≤ p1.1 then
        (if (iz 7) ≤ p1.1 then
           some (iz 4)
         else
           some (iz 3) : Option (Int32)).bind fun s3 =>
        (fM_tryOne u p2.2 s3 p2.1 (iz 0) (iz 0)).bind fun p4 =>
        some p4.2
      else
        (fM_draw u p2.2 (p2.2.1 0 9)).bind fun p5 =>
        (fM_draw u p5.2 (iz 100)).bind fun p6 =>
        (fM_tryOne u p6.2 (iz 2) p2.1 p5.1 p6.1).bind fun p7 =>
        some p7.2
    else
      (fM_draw u p2.2 (p2.2.1 0 9)).bind fun p8 =>
      (fM_tryOne u p8.2 (iz 1) p2.1 p8.1 (iz 0)).bind fun p9 =>
      some p9.2
set_option maxRecDepth 4000 in
theorem jM_drawYear {Γ : nx_G} {M0 : nx_M} {m : Nat} (u : Nat) (g : mS)   (X : nx_X) (Z : nx_Z) : nx_J Γ X (RX8, cX8_drawYear, 4, none, "drawYear", 12) Z (fun r0 : mS => .inr (none, (mW Γ M0 m r0))) (.inl (0, [some (.ref m), none, none, none], [], (mW Γ M0 m g))) (fM_drawYear u g) := by
  unfold fM_drawYear
  refine nx_aload_n rfl dX8_drawYear_0 rfl ?_
  refine nx_bipush (by decide +kernel) dX8_drawYear_1 rfl ?_
  refine nx_callVr [.int (iz 8)] (fun r => .int r.1) (fun r => (mW Γ M0 m r.2)) cw_8_326 cv_X8_draw (fun r e => cM_draw X.2.1  e) mW_m rfl rfl (Nat.le_of_ble_eq_true rfl) (Nat.le_of_ble_eq_true rfl) dX8_drawYear_3 rfl (fun p1 => ?_)
  refine nx_istore_n [some (.ref m), some (.int p1.1), none, none] dX8_drawYear_6 rfl (Nat.le_of_ble_eq_true rfl) rfl rfl ?_
  refine nx_aload_n rfl dX8_drawYear_7 rfl ?_
  refine nx_bipush (by decide +kernel) dX8_drawYear_8 rfl ?_
  refine nx_callVr [.int (iz 8)] (fun r => .int r.1) (fun r => (mW Γ M0 m r.2)) cw_8_326 cv_X8_draw (fun r e => cM_draw X.2.1  e) mW_m rfl rfl (Nat.le_of_ble_eq_true rfl) (Nat.le_of_ble_eq_true rfl) dX8_drawYear_10 rfl (fun p2 => ?_)
  refine nx_istore_n [some (.ref m), some (.int p1.1), some (.int p2.1), none] dX8_drawYear_13 rfl (Nat.le_of_ble_eq_true rfl) rfl rfl ?_
  refine nx_iload_n rfl dX8_drawYear_14 rfl ?_
  refine nx_if_ne (t := 34) dX8_drawYear_15 (by decide) rfl ?_ ?_
  · refine nx_iload_n rfl dX8_drawYear_34 rfl ?_
    refine nx_iconst dX8_drawYear_35 rfl ?_
    refine nx_icmp_ge (t := 58) dX8_drawYear_36 (by decide) rfl ?_ ?_
    · refine nx_iload_n rfl dX8_drawYear_58 rfl ?_
      refine nx_iconst dX8_drawYear_59 rfl ?_
      refine nx_icmp_ge (t := 89) dX8_drawYear_60 (by decide) rfl ?_ ?_
      · refine nx_aload_n rfl dX8_drawYear_89 rfl ?_
        refine nx_iload_n rfl dX8_drawYear_90 rfl ?_
        refine nx_bipush (by decide +kernel) dX8_drawYear_91 rfl ?_
        refine nx_seq (C1 := fun s3 : Int32 => .inl (101, [some (.ref m), some (.int p1.1), some (.int p2.1), none], [.int s3, .ref m], (mW Γ M0 m p2.2))) ?_ (fun s3 => ?_)
        · refine nx_icmp_ge (t := 100) dX8_drawYear_93 (by decide) rfl ?_ ?_
          · refine nx_iconst dX8_drawYear_100 rfl ?_
            obtain ⟨_, _⟩ := p1
            obtain ⟨_, _⟩ := p2
            exact nx_leaf rfl
          · refine nx_iconst dX8_drawYear_96 rfl ?_
            refine nx_goto (q := 101) dX8_drawYear_97 (by decide) ?_
            obtain ⟨_, _⟩ := p1
            obtain ⟨_, _⟩ := p2
            exact nx_leaf rfl
        refine nx_iload_n rfl dX8_drawYear_101 rfl ?_
        refine nx_iconst dX8_drawYear_102 rfl ?_
        refine nx_iconst dX8_drawYear_103 rfl ?_
        refine nx_callVr [.int s3, .int p2.1, .int (iz 0), .int (iz 0)] (fun r => .int (bz r.1)) (fun r => (mW Γ M0 m r.2)) cw_8_329 cv_X8_tryOne (fun r e => cM_tryOne X.2.1  e) mW_m rfl rfl (Nat.le_of_ble_eq_true rfl) (Nat.le_of_ble_eq_true rfl) dX8_drawYear_104 rfl (fun p4 => ?_)
        refine nx_pop rfl dX8_drawYear_107 rfl ?_
        exact nx_vret dX8_drawYear_108 rfl rfl
      · refine nx_aload_n rfl dX8_drawYear_63 rfl ?_
        refine nx_aload_n rfl dX8_drawYear_64 rfl ?_
        refine nx_getf fl_8_142 mW_m rfl dX8_drawYear_65 rfl ?_
        refine nx_callVr [.int (p2.2.1 0 9)] (fun r => .int r.1) (fun r => (mW Γ M0 m r.2)) cw_8_326 cv_X8_draw (fun r e => cM_draw X.2.1  e) mW_m rfl rfl (Nat.le_of_ble_eq_true rfl) (Nat.le_of_ble_eq_true rfl) dX8_drawYear_68 rfl (fun p5 => ?_)
        refine nx_istore_n [some (.ref m), some (.int p1.1), some (.int p2.1), some (.int p5.1)] dX8_drawYear_71 rfl (Nat.le_of_ble_eq_true rfl) rfl rfl ?_
        refine nx_aload_n rfl dX8_drawYear_72 rfl ?_
        refine nx_iconst dX8_drawYear_73 rfl ?_
        refine nx_iload_n rfl dX8_drawYear_74 rfl ?_
        refine nx_iload_n rfl dX8_drawYear_75 rfl ?_
        refine nx_aload_n rfl dX8_drawYear_76 rfl ?_
        refine nx_bipush (by decide +kernel) dX8_drawYear_77 rfl ?_
        refine nx_callVr [.int (iz 100)] (fun r => .int r.1) (fun r => (mW Γ M0 m r.2)) cw_8_326 cv_X8_draw (fun r e => cM_draw X.2.1  e) mW_m rfl rfl (Nat.le_of_ble_eq_true rfl) (Nat.le_of_ble_eq_true rfl) dX8_drawYear_79 rfl (fun p6 => ?_)
        refine nx_callVr [.int (iz 2), .int p2.1, .int p5.1, .int p6.1] (fun r => .int (bz r.1)) (fun r => (mW Γ M0 m r.2)) cw_8_329 cv_X8_tryOne (fun r e => cM_tryOne X.2.1  e) mW_m rfl rfl (Nat.le_of_ble_eq_true rfl) (Nat.le_of_ble_eq_true rfl) dX8_drawYear_82 rfl (fun p7 => ?_)
        refine nx_pop rfl dX8_drawYear_85 rfl ?_
        refine nx_goto (q := 108) dX8_drawYear_86 (by decide) ?_
        exact nx_vret dX8_drawYear_108 rfl rfl
    · refine nx_aload_n rfl dX8_drawYear_39 rfl ?_
      refine nx_iconst dX8_drawYear_40 rfl ?_
      refine nx_iload_n rfl dX8_drawYear_41 rfl ?_
      refine nx_aload_n rfl dX8_drawYear_42 rfl ?_
      refine nx_aload_n rfl dX8_drawYear_43 rfl ?_
      refine nx_getf fl_8_142 mW_m rfl dX8_drawYear_44 rfl ?_
      refine nx_callVr [.int (p2.2.1 0 9)] (fun r => .int r.1) (fun r => (mW Γ M0 m r.2)) cw_8_326 cv_X8_draw (fun r e => cM_draw X.2.1  e) mW_m rfl rfl (Nat.le_of_ble_eq_true rfl) (Nat.le_of_ble_eq_true rfl) dX8_drawYear_47 rfl (fun p8 => ?_)
      refine nx_iconst dX8_drawYear_50 rfl ?_
      refine nx_callVr [.int (iz 1), .int p2.1, .int p8.1, .int (iz 0)] (fun r => .int (bz r.1)) (fun r => (mW Γ M0 m r.2)) cw_8_329 cv_X8_tryOne (fun r e => cM_tryOne X.2.1  e) mW_m rfl rfl (Nat.le_of_ble_eq_true rfl) (Nat.le_of_ble_eq_true rfl) dX8_drawYear_51 rfl (fun p9 => ?_)
      refine nx_pop rfl dX8_drawYear_54 rfl ?_
      refine nx_goto (q := 108) dX8_drawYear_55 (by decide) ?_
      exact nx_vret dX8_drawYear_108 rfl rfl
  · refine nx_aload_n rfl dX8_drawYear_18 rfl ?_
    refine nx_iconst dX8_drawYear_19 rfl ?_
    refine nx_iload_n rfl dX8_drawYear_20 rfl ?_
    refine nx_aload_n rfl dX8_drawYear_21 rfl ?_
    refine nx_iconst dX8_drawYear_22 rfl ?_
    refine nx_callVr [.int (iz 2)] (fun r => .int r.1) (fun r => (mW Γ M0 m r.2)) cw_8_326 cv_X8_draw (fun r e => cM_draw X.2.1  e) mW_m rfl rfl (Nat.le_of_ble_eq_true rfl) (Nat.le_of_ble_eq_true rfl) dX8_drawYear_23 rfl (fun p10 => ?_)
    refine nx_iconst dX8_drawYear_26 rfl ?_
    refine nx_callVr [.int (iz 0), .int p2.1, .int p10.1, .int (iz 0)] (fun r => .int (bz r.1)) (fun r => (mW Γ M0 m r.2)) cw_8_329 cv_X8_tryOne (fun r e => cM_tryOne X.2.1  e) mW_m rfl rfl (Nat.le_of_ble_eq_true rfl) (Nat.le_of_ble_eq_true rfl) dX8_drawYear_27 rfl (fun p11 => ?_)
    refine nx_pop rfl dX8_drawYear_30 rfl ?_
    refine nx_goto (q := 108) dX8_drawYear_31 (by decide) ?_
    exact nx_vret dX8_drawYear_108 rfl rfl
theorem cM_drawYear (l : Launch) {Γ : nx_G} {M0 : nx_M} {m : Nat} {u : Nat} {g : mS} {r : mS}  (h : fM_drawYear u g = some r) : nx_Ct l Γ 12 yX8_drawYear cX8_drawYear 4 none [.ref m] (mW Γ M0 m g) (none, (mW Γ M0 m r)) :=
  nx_ct (out := fun r0 : mS => (none, (mW Γ M0 m r0))) [some (.ref m), none, none, none] pn_RX8 h (Nat.le_of_ble_eq_true rfl) rfl (fun X Z _ => jM_drawYear  u g X Z)
theorem dX8_years_0 : decode cX8_years 0 = .ok (.aload_n 0, 1) := by decide +kernel
theorem dX8_years_1 : decode cX8_years 1 = .ok (.invokevirtual 158, 3) := by decide +kernel
theorem dX8_years_4 : decode cX8_years 4 = .ok (.ifCond .eq 13, 3) := by decide +kernel
theorem dX8_years_7 : decode cX8_years 7 = .ok (.iload_n 1, 1) := by decide +kernel
theorem dX8_years_8 : decode cX8_years 8 = .ok (.iconst 1, 1) := by decide +kernel
theorem dX8_years_9 : decode cX8_years 9 = .ok (.bipush 40, 2) := by decide +kernel
theorem dX8_years_11 : decode cX8_years 11 = .ok (.invokestatic 61, 3) := by decide +kernel
theorem dX8_years_14 : decode cX8_years 14 = .ok (.ifCond .ne 5, 3) := by decide +kernel
theorem dX8_years_17 : decode cX8_years 17 = .ok (.iconst (-1), 1) := by decide +kernel
theorem dX8_years_18 : decode cX8_years 18 = .ok (.ireturn, 1) := by decide +kernel
theorem dX8_years_19 : decode cX8_years 19 = .ok (.aload_n 0, 1) := by decide +kernel
theorem dX8_years_20 : decode cX8_years 20 = .ok (.lload_n 2, 1) := by decide +kernel
theorem dX8_years_21 : decode cX8_years 21 = .ok (.putfield 318, 3) := by decide +kernel
theorem dX8_years_24 : decode cX8_years 24 = .ok (.iconst 0, 1) := by decide +kernel
theorem dX8_years_25 : decode cX8_years 25 = .ok (.istore 4, 2) := by decide +kernel
theorem dX8_years_27 : decode cX8_years 27 = .ok (.iload 4, 2) := by decide +kernel
theorem dX8_years_29 : decode cX8_years 29 = .ok (.iload_n 1, 1) := by decide +kernel
theorem dX8_years_30 : decode cX8_years 30 = .ok (.if_icmp .ge 13, 3) := by decide +kernel
theorem dX8_years_33 : decode cX8_years 33 = .ok (.aload_n 0, 1) := by decide +kernel
theorem dX8_years_34 : decode cX8_years 34 = .ok (.invokevirtual 333, 3) := by decide +kernel
theorem dX8_years_37 : decode cX8_years 37 = .ok (.iinc 4 1, 3) := by decide +kernel
theorem dX8_years_40 : decode cX8_years 40 = .ok (.goto (-13), 3) := by decide +kernel
theorem dX8_years_43 : decode cX8_years 43 = .ok (.aload_n 0, 1) := by decide +kernel
theorem dX8_years_44 : decode cX8_years 44 = .ok (.getfield 28, 3) := by decide +kernel
theorem dX8_years_47 : decode cX8_years 47 = .ok (.sipush 606, 3) := by decide +kernel
theorem dX8_years_50 : decode cX8_years 50 = .ok (.iaload, 1) := by decide +kernel
theorem dX8_years_51 : decode cX8_years 51 = .ok (.ireturn, 1) := by decide +kernel
def fM_years_27 (u : Nat) (a1 : Int32) (s4 : Int32 × mS) : Option ((Int32 × mS) ⊕ (mS)) :=
  if a1 ≤ s4.1 then
    some (.inr s4.2)
  else
    (fM_drawYear u s4.2).bind fun g5 =>
    some (.inl ((s4.1 + iz 1), g5))
def fM_years (u : Nat) (g : mS) (a1 : Int32) (a2 : Int64) : Option (Int32 × mS) :=
  (fM_isStore u g).bind fun b1 =>
  if b1 = true then
    (fM_in u a1 (iz 1) (iz 40)).bind fun b2 =>
    if b2 = true then
      (some (mFl g a2)).bind fun g3 =>
      (nx_iter u (fM_years_27 u a1) ((iz 0), g3)).bind fun e6 =>
      (nx_rd (mlen 7) (e6.1 7) (iz 606)).bind fun x7 =>
      some (x7, e6)
    else
      some ((iz (-1)), g)
  else
    some ((iz (-1)), g)
set_option maxRecDepth 4000 in
theorem jM_years_27 {Γ : nx_G} {M0 : nx_M} {m : Nat} (u : Nat) (a1 : Int32) (a2 : Int64)   (X : nx_X) (Z : nx_Z) (s4 : Int32 × mS) : nx_J Γ X (RX8, cX8_years, 5, (some .int), "years", 13) Z (Sum.elim (fun s4 : Int32 × mS => .inl (27, [some (.ref m), some (.int a1), some (.long a2), none, some (.int s4.1)], [], (mW Γ M0 m s4.2))) (fun e6 : mS => .inl (43, [some (.ref m), some (.int a1), some (.long a2), none, none], [], (mW Γ M0 m e6)))) (.inl (27, [some (.ref m), some (.int a1), some (.long a2), none, some (.int s4.1)], [], (mW Γ M0 m s4.2))) (fM_years_27 u a1 s4) := by
  unfold fM_years_27
  refine nx_iload rfl dX8_years_27 rfl ?_
  refine nx_iload_n rfl dX8_years_29 rfl ?_
  refine nx_icmp_ge (t := 43) dX8_years_30 (by decide) rfl ?_ ?_
  · refine nx_weak (ls' := [some (.ref m), some (.int a1), some (.long a2), none, none]) (nx_wk_s (nx_wk_s (nx_wk_s (nx_wk_n (nx_wk_n nx_wk_e))))) ?_
    obtain ⟨_, _⟩ := s4
    exact nx_leaf rfl
  · refine nx_aload_n rfl dX8_years_33 rfl ?_
    refine nx_callVv [] (fun r => (mW Γ M0 m r)) cw_8_333 cv_X8_drawYear (fun r e => cM_drawYear X.2.1  e) mW_m rfl rfl (Nat.le_of_ble_eq_true rfl) (Nat.le_of_ble_eq_true rfl) dX8_years_34 rfl (fun g5 => ?_)
    refine nx_iinc [some (.ref m), some (.int a1), some (.long a2), none, some (.int (s4.1 + iz 1))] dX8_years_37 rfl rfl (Nat.le_of_ble_eq_true rfl) rfl rfl ?_
    refine nx_goto (q := 27) dX8_years_40 (by decide) ?_
    obtain ⟨_, _⟩ := s4
    exact nx_leaf rfl
set_option maxRecDepth 4000 in
theorem jM_years {Γ : nx_G} {M0 : nx_M} {m : Nat} (u : Nat) (g : mS) (a1 : Int32) (a2 : Int64)   (X : nx_X) (Z : nx_Z) : nx_J Γ X (RX8, cX8_years, 5, (some .int), "years", 13) Z (fun r0 : Int32 × mS => .inr (some (.int r0.1), (mW Γ M0 m r0.2))) (.inl (0, [some (.ref m), some (.int a1), some (.long a2), none, none], [], (mW Γ M0 m g))) (fM_years u g a1 a2) := by
  unfold fM_years
  refine nx_aload_n rfl dX8_years_0 rfl ?_
  refine nx_callVr [] (fun r => .int (bz r)) (fun _ => (mW Γ M0 m g)) cw_8_158 cv_X8_isStore (fun r e => cM_isStore X.2.1  e) mW_m rfl rfl (Nat.le_of_ble_eq_true rfl) (Nat.le_of_ble_eq_true rfl) dX8_years_1 rfl (fun b1 => ?_)
  refine nx_ifz_eq (t := 17) dX8_years_4 (by decide) rfl ?_ ?_
  · refine nx_iconst dX8_years_17 rfl ?_
    exact nx_iret dX8_years_18 rfl rfl
  · refine nx_iload_n rfl dX8_years_7 rfl ?_
    refine nx_iconst dX8_years_8 rfl ?_
    refine nx_bipush (by decide +kernel) dX8_years_9 rfl ?_
    refine nx_callSr [.int a1, .int (iz 1), .int (iz 40)] (fun r => .int (bz r)) (fun _ => (mW Γ M0 m g)) cw_8_61 wd_1243 (fun r e => cM_in X.2.1  e) rfl rfl (Nat.le_of_ble_eq_true rfl) (Nat.le_of_ble_eq_true rfl) dX8_years_11 rfl (fun b2 => ?_)
    refine nx_ifz_ne (t := 19) dX8_years_14 (by decide) rfl ?_ ?_
    · refine nx_aload_n rfl dX8_years_19 rfl ?_
      refine nx_lload_n rfl dX8_years_20 rfl ?_
      refine m_putl fl_8_318 ft_8_20 dX8_years_21 rfl (fun g3 => ?_)
      refine nx_iconst dX8_years_24 rfl ?_
      refine nx_istore [some (.ref m), some (.int a1), some (.long a2), none, some (.int (iz 0))] dX8_years_25 rfl (Nat.le_of_ble_eq_true rfl) rfl rfl ?_
      refine nx_seq (C1 := fun e6 : mS => .inl (43, [some (.ref m), some (.int a1), some (.long a2), none, none], [], (mW Γ M0 m e6))) (nx_loop (C1 := fun s4 : Int32 × mS => .inl (27, [some (.ref m), some (.int a1), some (.long a2), none, some (.int s4.1)], [], (mW Γ M0 m s4.2))) (fun s4 => jM_years_27  u a1 a2 X Z s4) ((iz 0), g3)) (fun e6 => ?_)
      refine nx_aload_n rfl dX8_years_43 rfl ?_
      refine nx_getf fl_8_28 mW_m rfl dX8_years_44 rfl ?_
      refine nx_sipush (by decide +kernel) dX8_years_47 rfl ?_
      refine m_iald 7 ⟨Nat.le_of_ble_eq_true rfl, Nat.le_of_ble_eq_true rfl⟩ dX8_years_50 rfl (fun x7 => ?_)
      exact nx_iret dX8_years_51 rfl rfl
    · refine nx_iconst dX8_years_17 rfl ?_
      exact nx_iret dX8_years_18 rfl rfl
theorem cM_years (l : Launch) {Γ : nx_G} {M0 : nx_M} {m : Nat} {u : Nat} {g : mS} {a1 : Int32} {a2 : Int64} {r : Int32 × mS}  (h : fM_years u g a1 a2 = some r) : nx_Ct l Γ 13 yX8_years cX8_years 5 (some .int) [.ref m, .int a1, .long a2] (mW Γ M0 m g) (some (.int r.1), (mW Γ M0 m r.2)) :=
  nx_ct (out := fun r0 : Int32 × mS => (some (.int r0.1), (mW Γ M0 m r0.2))) [some (.ref m), some (.int a1), some (.long a2), none, none] pn_RX8 h (Nat.le_of_ble_eq_true rfl) rfl (fun X Z _ => jM_years  u g a1 a2 X Z)
theorem dX8_status_0 : decode cX8_status 0 = .ok (.iload_n 1, 1) := by decide +kernel
theorem dX8_status_1 : decode cX8_status 1 = .ok (.iconst 0, 1) := by decide +kernel
theorem dX8_status_2 : decode cX8_status 2 = .ok (.iconst 3, 1) := by decide +kernel
theorem dX8_status_3 : decode cX8_status 3 = .ok (.invokestatic 61, 3) := by decide +kernel
theorem dX8_status_6 : decode cX8_status 6 = .ok (.ifCond .eq 12, 3) := by decide +kernel
theorem dX8_status_9 : decode cX8_status 9 = .ok (.aload_n 0, 1) := by decide +kernel
theorem dX8_status_10 : decode cX8_status 10 = .ok (.getfield 31, 3) := by decide +kernel
theorem dX8_status_13 : decode cX8_status 13 = .ok (.iload_n 1, 1) := by decide +kernel
theorem dX8_status_14 : decode cX8_status 14 = .ok (.iaload, 1) := by decide +kernel
theorem dX8_status_15 : decode cX8_status 15 = .ok (.goto 4, 3) := by decide +kernel
theorem dX8_status_18 : decode cX8_status 18 = .ok (.iconst (-1), 1) := by decide +kernel
theorem dX8_status_19 : decode cX8_status 19 = .ok (.ireturn, 1) := by decide +kernel
def fM_status (u : Nat) (g : mS) (a1 : Int32) : Option (Int32) :=
  (fM_in u a1 (iz 0) (iz 3)).bind fun b1 =>
  if b1 = true then
    (nx_rd (mlen 8) (g.1 8) a1).bind fun x2 =>
    some x2
  else
    some (iz (-1))
set_option maxRecDepth 4000 in
theorem jM_status {Γ : nx_G} {M0 : nx_M} {m : Nat} (u : Nat) (g : mS) (a1 : Int32)   (X : nx_X) (Z : nx_Z) : nx_J Γ X (RX8, cX8_status, 2, (some .int), "status", 2) Z (fun r0 : Int32 => .inr (some (.int r0), (mW Γ M0 m g))) (.inl (0, [some (.ref m), some (.int a1)], [], (mW Γ M0 m g))) (fM_status u g a1) := by
  unfold fM_status
  refine nx_iload_n rfl dX8_status_0 rfl ?_
  refine nx_iconst dX8_status_1 rfl ?_
  refine nx_iconst dX8_status_2 rfl ?_
  refine nx_callSr [.int a1, .int (iz 0), .int (iz 3)] (fun r => .int (bz r)) (fun _ => (mW Γ M0 m g)) cw_8_61 wd_1243 (fun r e => cM_in X.2.1  e) rfl rfl (Nat.le_of_ble_eq_true rfl) (Nat.le_of_ble_eq_true rfl) dX8_status_3 rfl (fun b1 => ?_)
  refine nx_ifz_eq (t := 18) dX8_status_6 (by decide) rfl ?_ ?_
  · refine nx_iconst dX8_status_18 rfl ?_
    exact nx_iret dX8_status_19 rfl rfl
  · refine nx_aload_n rfl dX8_status_9 rfl ?_
    refine nx_getf fl_8_31 mW_m rfl dX8_status_10 rfl ?_
    refine nx_iload_n rfl dX8_status_13 rfl ?_
    refine m_iald 8 ⟨Nat.le_of_ble_eq_true rfl, Nat.le_of_ble_eq_true rfl⟩ dX8_status_14 rfl (fun x2 => ?_)
    refine nx_goto (q := 19) dX8_status_15 (by decide) ?_
    exact nx_iret dX8_status_19 rfl rfl
theorem cM_status (l : Launch) {Γ : nx_G} {M0 : nx_M} {m : Nat} {u : Nat} {g : mS} {a1 : Int32} {r : Int32}  (h : fM_status u g a1 = some r) : nx_Ct l Γ 2 yX8_status cX8_status 2 (some .int) [.ref m, .int a1] (mW Γ M0 m g) (some (.int r), (mW Γ M0 m g)) :=
  nx_ct (out := fun r0 : Int32 => (some (.int r0), (mW Γ M0 m g))) [some (.ref m), some (.int a1)] pn_RX8 h (Nat.le_of_ble_eq_true rfl) rfl (fun X Z _ => jM_status  u g a1 X Z)
