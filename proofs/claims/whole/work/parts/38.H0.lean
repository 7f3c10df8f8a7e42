theorem dX8_goMix_0 : decode cX8_goMix 0 = .ok (.iload_n 3, 1) := by decide +kernel
theorem dX8_goMix_1 : decode cX8_goMix 1 = .ok (.iload 4, 2) := by decide +kernel
theorem dX8_goMix_3 : decode cX8_goMix 3 = .ok (.iadd, 1) := by decide +kernel
theorem dX8_goMix_4 : decode cX8_goMix 4 = .ok (.istore 6, 2) := by decide +kernel
theorem dX8_goMix_6 : decode cX8_goMix 6 = .ok (.iload_n 3, 1) := by decide +kernel
theorem dX8_goMix_7 : decode cX8_goMix 7 = .ok (.aload_n 0, 1) := by decide +kernel
theorem dX8_goMix_8 : decode cX8_goMix 8 = .ok (.getfield 25, 3) := by decide +kernel
theorem dX8_goMix_11 : decode cX8_goMix 11 = .ok (.iload_n 1, 1) := by decide +kernel
theorem dX8_goMix_12 : decode cX8_goMix 12 = .ok (.iaload, 1) := by decide +kernel
theorem dX8_goMix_13 : decode cX8_goMix 13 = .ok (.if_icmp .ne 55, 3) := by decide +kernel
theorem dX8_goMix_16 : decode cX8_goMix 16 = .ok (.iload 4, 2) := by decide +kernel
theorem dX8_goMix_18 : decode cX8_goMix 18 = .ok (.aload_n 0, 1) := by decide +kernel
theorem dX8_goMix_19 : decode cX8_goMix 19 = .ok (.getfield 25, 3) := by decide +kernel
theorem dX8_goMix_22 : decode cX8_goMix 22 = .ok (.iload_n 2, 1) := by decide +kernel
theorem dX8_goMix_23 : decode cX8_goMix 23 = .ok (.iaload, 1) := by decide +kernel
theorem dX8_goMix_24 : decode cX8_goMix 24 = .ok (.if_icmp .ne 44, 3) := by decide +kernel
theorem dX8_goMix_27 : decode cX8_goMix 27 = .ok (.aload_n 0, 1) := by decide +kernel
theorem dX8_goMix_28 : decode cX8_goMix 28 = .ok (.dup, 1) := by decide +kernel
theorem dX8_goMix_29 : decode cX8_goMix 29 = .ok (.getfield 364, 3) := by decide +kernel
theorem dX8_goMix_32 : decode cX8_goMix 32 = .ok (.iconst 1, 1) := by decide +kernel
theorem dX8_goMix_33 : decode cX8_goMix 33 = .ok (.iadd, 1) := by decide +kernel
theorem dX8_goMix_34 : decode cX8_goMix 34 = .ok (.putfield 364, 3) := by decide +kernel
theorem dX8_goMix_37 : decode cX8_goMix 37 = .ok (.aload_n 0, 1) := by decide +kernel
theorem dX8_goMix_38 : decode cX8_goMix 38 = .ok (.aload_n 0, 1) := by decide +kernel
theorem dX8_goMix_39 : decode cX8_goMix 39 = .ok (.getfield 367, 3) := by decide +kernel
theorem dX8_goMix_42 : decode cX8_goMix 42 = .ok (.iconst (-1), 1) := by decide +kernel
theorem dX8_goMix_43 : decode cX8_goMix 43 = .ok (.if_icmp .eq 12, 3) := by decide +kernel
theorem dX8_goMix_46 : decode cX8_goMix 46 = .ok (.iload 5, 2) := by decide +kernel
theorem dX8_goMix_48 : decode cX8_goMix 48 = .ok (.aload_n 0, 1) := by decide +kernel
theorem dX8_goMix_49 : decode cX8_goMix 49 = .ok (.getfield 367, 3) := by decide +kernel
theorem dX8_goMix_52 : decode cX8_goMix 52 = .ok (.if_icmp .ge 8, 3) := by decide +kernel
theorem dX8_goMix_55 : decode cX8_goMix 55 = .ok (.iload 5, 2) := by decide +kernel
theorem dX8_goMix_57 : decode cX8_goMix 57 = .ok (.goto 7, 3) := by decide +kernel
theorem dX8_goMix_60 : decode cX8_goMix 60 = .ok (.aload_n 0, 1) := by decide +kernel
theorem dX8_goMix_61 : decode cX8_goMix 61 = .ok (.getfield 367, 3) := by decide +kernel
theorem dX8_goMix_64 : decode cX8_goMix 64 = .ok (.putfield 367, 3) := by decide +kernel
theorem dX8_goMix_67 : decode cX8_goMix 67 = .ok (.return_, 1) := by decide +kernel
theorem dX8_goMix_68 : decode cX8_goMix 68 = .ok (.aload_n 0, 1) := by decide +kernel
theorem dX8_goMix_69 : decode cX8_goMix 69 = .ok (.iload 6, 2) := by decide +kernel
theorem dX8_goMix_71 : decode cX8_goMix 71 = .ok (.invokevirtual 349, 3) := by decide +kernel
theorem dX8_goMix_74 : decode cX8_goMix 74 = .ok (.iconst 0, 1) := by decide +kernel
theorem dX8_goMix_75 : decode cX8_goMix 75 = .ok (.istore 7, 2) := by decide +kernel
theorem dX8_goMix_77 : decode cX8_goMix 77 = .ok (.iload 7, 2) := by decide +kernel
theorem dX8_goMix_79 : decode cX8_goMix 79 = .ok (.iconst 2, 1) := by decide +kernel
theorem dX8_goMix_80 : decode cX8_goMix 80 = .ok (.if_icmp .ge 105, 3) := by decide +kernel
theorem dX8_goMix_83 : decode cX8_goMix 83 = .ok (.iload 7, 2) := by decide +kernel
theorem dX8_goMix_85 : decode cX8_goMix 85 = .ok (.ifCond .ne 7, 3) := by decide +kernel
theorem dX8_goMix_88 : decode cX8_goMix 88 = .ok (.iload_n 1, 1) := by decide +kernel
theorem dX8_goMix_89 : decode cX8_goMix 89 = .ok (.goto 4, 3) := by decide +kernel
theorem dX8_goMix_92 : decode cX8_goMix 92 = .ok (.iload_n 2, 1) := by decide +kernel
theorem dX8_goMix_93 : decode cX8_goMix 93 = .ok (.istore 8, 2) := by decide +kernel
theorem dX8_goMix_95 : decode cX8_goMix 95 = .ok (.iload 7, 2) := by decide +kernel
theorem dX8_goMix_97 : decode cX8_goMix 97 = .ok (.ifCond .ne 7, 3) := by decide +kernel
theorem dX8_goMix_100 : decode cX8_goMix 100 = .ok (.iload_n 3, 1) := by decide +kernel
theorem dX8_goMix_101 : decode cX8_goMix 101 = .ok (.goto 5, 3) := by decide +kernel
theorem dX8_goMix_104 : decode cX8_goMix 104 = .ok (.iload 4, 2) := by decide +kernel
theorem dX8_goMix_106 : decode cX8_goMix 106 = .ok (.istore 9, 2) := by decide +kernel
theorem dX8_goMix_108 : decode cX8_goMix 108 = .ok (.iload 9, 2) := by decide +kernel
theorem dX8_goMix_110 : decode cX8_goMix 110 = .ok (.aload_n 0, 1) := by decide +kernel
theorem dX8_goMix_111 : decode cX8_goMix 111 = .ok (.getfield 25, 3) := by decide +kernel
theorem dX8_goMix_114 : decode cX8_goMix 114 = .ok (.iload 8, 2) := by decide +kernel
theorem dX8_goMix_116 : decode cX8_goMix 116 = .ok (.iaload, 1) := by decide +kernel
theorem dX8_goMix_117 : decode cX8_goMix 117 = .ok (.if_icmp .ge 62, 3) := by decide +kernel
theorem dX8_goMix_120 : decode cX8_goMix 120 = .ok (.aload_n 0, 1) := by decide +kernel
theorem dX8_goMix_121 : decode cX8_goMix 121 = .ok (.iconst 0, 1) := by decide +kernel
theorem dX8_goMix_122 : decode cX8_goMix 122 = .ok (.putfield 205, 3) := by decide +kernel
theorem dX8_goMix_125 : decode cX8_goMix 125 = .ok (.aload_n 0, 1) := by decide +kernel
theorem dX8_goMix_126 : decode cX8_goMix 126 = .ok (.iload 8, 2) := by decide +kernel
theorem dX8_goMix_128 : decode cX8_goMix 128 = .ok (.iload 9, 2) := by decide +kernel
theorem dX8_goMix_130 : decode cX8_goMix 130 = .ok (.invokevirtual 358, 3) := by decide +kernel
theorem dX8_goMix_133 : decode cX8_goMix 133 = .ok (.ifCond .eq 35, 3) := by decide +kernel
theorem dX8_goMix_136 : decode cX8_goMix 136 = .ok (.aload_n 0, 1) := by decide +kernel
theorem dX8_goMix_137 : decode cX8_goMix 137 = .ok (.getfield 205, 3) := by decide +kernel
theorem dX8_goMix_140 : decode cX8_goMix 140 = .ok (.ifCond .ne 28, 3) := by decide +kernel
theorem dX8_goMix_143 : decode cX8_goMix 143 = .ok (.aload_n 0, 1) := by decide +kernel
theorem dX8_goMix_144 : decode cX8_goMix 144 = .ok (.iload_n 1, 1) := by decide +kernel
theorem dX8_goMix_145 : decode cX8_goMix 145 = .ok (.iload_n 2, 1) := by decide +kernel
theorem dX8_goMix_146 : decode cX8_goMix 146 = .ok (.iload_n 3, 1) := by decide +kernel
theorem dX8_goMix_147 : decode cX8_goMix 147 = .ok (.iconst 1, 1) := by decide +kernel
theorem dX8_goMix_148 : decode cX8_goMix 148 = .ok (.iadd, 1) := by decide +kernel
theorem dX8_goMix_149 : decode cX8_goMix 149 = .ok (.iload 7, 2) := by decide +kernel
theorem dX8_goMix_151 : decode cX8_goMix 151 = .ok (.isub, 1) := by decide +kernel
theorem dX8_goMix_152 : decode cX8_goMix 152 = .ok (.iload 4, 2) := by decide +kernel
theorem dX8_goMix_154 : decode cX8_goMix 154 = .ok (.iload 7, 2) := by decide +kernel
theorem dX8_goMix_156 : decode cX8_goMix 156 = .ok (.iadd, 1) := by decide +kernel
theorem dX8_goMix_157 : decode cX8_goMix 157 = .ok (.iload 5, 2) := by decide +kernel
theorem dX8_goMix_159 : decode cX8_goMix 159 = .ok (.iload 7, 2) := by decide +kernel
theorem dX8_goMix_161 : decode cX8_goMix 161 = .ok (.iload 6, 2) := by decide +kernel
theorem dX8_goMix_163 : decode cX8_goMix 163 = .ok (.ishl, 1) := by decide +kernel
theorem dX8_goMix_164 : decode cX8_goMix 164 = .ok (.ior, 1) := by decide +kernel
theorem dX8_goMix_165 : decode cX8_goMix 165 = .ok (.invokevirtual 370, 3) := by decide +kernel
theorem dX8_goMix_168 : decode cX8_goMix 168 = .ok (.aload_n 0, 1) := by decide +kernel
theorem dX8_goMix_169 : decode cX8_goMix 169 = .ok (.iload 6, 2) := by decide +kernel
theorem dX8_goMix_171 : decode cX8_goMix 171 = .ok (.invokevirtual 352, 3) := by decide +kernel
theorem dX8_goMix_174 : decode cX8_goMix 174 = .ok (.aload_n 0, 1) := by decide +kernel
theorem dX8_goMix_175 : decode cX8_goMix 175 = .ok (.iconst 1, 1) := by decide +kernel
theorem dX8_goMix_176 : decode cX8_goMix 176 = .ok (.putfield 168, 3) := by decide +kernel
theorem dX8_goMix_179 : decode cX8_goMix 179 = .ok (.iinc 7 1, 3) := by decide +kernel
theorem dX8_goMix_182 : decode cX8_goMix 182 = .ok (.goto (-105), 3) := by decide +kernel
theorem dX8_goMix_185 : decode cX8_goMix 185 = .ok (.return_, 1) := by decide +kernel
def fM_goMix_77 (u : Nat) (a1 : Int32) (a2 : Int32) (a3 : Int32) (a4 : Int32) (a5 : Int32) (rc : mS → Int32 → Int32 → Int32 → Int32 → Int32 → Option (mS)) (s4 : Int32 × mS) : Option ((Int32 × mS) ⊕ (mS)) :=
  if (iz 2) ≤ s4.1 then
    some (.inr s4.2)
  else
    (if s4.1 = iz 0 then
       some a1
     else
       some a2 : Option (Int32)).bind fun s5 =>
    (if s4.1 = iz 0 then
       some a3
     else
       some a4 : Option (Int32)).bind fun s6 =>
    (nx_rd (mlen 6) (s4.2.1 6) s5).bind fun x7 =>
    (if x7 ≤ s6 then
       some s4.2
     else
       (some (mFs s4.2 16 (iz 0))).bind fun g8 =>
       (fM_doStep u g8 s5 s6).bind fun p9 =>
       (if p9.1 = true then
          if (p9.2.1 0 16) = iz 0 then
            (rc p9.2 a1 a2 ((a3 + (iz 1)) - s4.1) (a4 + s4.1) (a5 ||| (s4.1 <<< ((a3 + a4) &&& 31)))).bind fun g10 =>
            some g10
          else
            some p9.2
        else
          some p9.2 : Option (mS)).bind fun s11 =>
       (fM_bringBack u s11 (a3 + a4)).bind fun g12 =>
       (some (mFs g12 15 (iz 1))).bind fun g13 =>
       some g13 : Option (mS)).bind fun s14 =>
    some (.inl ((s4.1 + iz 1), s14))
def fM_goMix_68k0 (u : Nat) (a1 : Int32) (a2 : Int32) (a3 : Int32) (a4 : Int32) (a5 : Int32) (rc : mS → Int32 → Int32 → Int32 → Int32 → Int32 → Option (mS)) (k2 : mS) : Option (mS) :=
  (fM_putAside u k2 (a3 + a4)).bind fun g3 =>
  (nx_iter u (fM_goMix_77 u a1 a2 a3 a4 a5 rc) ((iz 0), g3)).bind fun e15 =>
  some e15
def fM_goMix_b (u : Nat) (rc : mS → Int32 → Int32 → Int32 → Int32 → Int32 → Option (mS)) (g : mS) (a1 : Int32) (a2 : Int32) (a3 : Int32) (a4 : Int32) (a5 : Int32) : Option (mS) :=
  (nx_rd (mlen 6) (g.1 6) a1).bind fun x1 =>
  if a3 = x1 then
    (nx_rd (mlen 6) (g.1 6) a2).bind fun x16 =>
    if a4 = x16 then
      (some (mFs g 22 ((g.1 0 22) + (iz 1)))).bind fun g17 =>
      (if (g17.1 0 23) = (iz (-1)) then
         some a5
       else
         if (g17.1 0 23) ≤ a5 then
           some (g17.1 0 23)
         else
           some a5 : Option (Int32)).bind fun s18 =>
      (some (mFs g17 23 s18)).bind fun g19 =>
      some g19
    else
      fM_goMix_68k0 u a1 a2 a3 a4 a5 rc g
  else
    fM_goMix_68k0 u a1 a2 a3 a4 a5 rc g
set_option maxRecDepth 4000 in
theorem jM_goMix_77 {Γ : nx_G} {M0 : nx_M} {m : Nat} (u : Nat) (a1 : Int32) (a2 : Int32) (a3 : Int32) (a4 : Int32) (a5 : Int32)  (dd : Nat) (hd0 : 13 ≤ dd) (rc : mS → Int32 → Int32 → Int32 → Int32 → Int32 → Option (mS)) (dr : Nat) (hdr : dr + 1 ≤ dd) (hrc : ∀ (l : Launch) {g : mS} {a1 : Int32} {a2 : Int32} {a3 : Int32} {a4 : Int32} {a5 : Int32} {r : mS}, rc g a1 a2 a3 a4 a5 = some r → nx_Ct l Γ dr yX8_goMix cX8_goMix 10 none [.ref m, .int a1, .int a2, .int a3, .int a4, .int a5] (mW Γ M0 m g) (none, (mW Γ M0 m r))) (X : nx_X) (Z : nx_Z) (s4 : Int32 × mS) : nx_J Γ X (RX8, cX8_goMix, 10, none, "goMix", dd) Z (Sum.elim (fun s4 : Int32 × mS => .inl (77, [some (.ref m), some (.int a1), some (.int a2), some (.int a3), some (.int a4), some (.int a5), some (.int (a3 + a4)), some (.int s4.1), none, none], [], (mW Γ M0 m s4.2))) (fun e15 : mS => .inl (185, [some (.ref m), some (.int a1), some (.int a2), some (.int a3), some (.int a4), some (.int a5), some (.int (a3 + a4)), none, none, none], [], (mW Γ M0 m e15)))) (.inl (77, [some (.ref m), some (.int a1), some (.int a2), some (.int a3), some (.int a4), some (.int a5), some (.int (a3 + a4)), some (.int s4.1), none, none], [], (mW Γ M0 m s4.2))) (fM_goMix_77 u a1 a2 a3 a4 a5 rc s4) := by
  unfold fM_goMix_77
  refine nx_iload rfl dX8_goMix_77 rfl ?_
  refine nx_iconst dX8_goMix_79 rfl ?_
  refine nx_icmp_ge (t := 185) dX8_goMix_80 (by decide) rfl ?_ ?_
  · refine nx_weak (ls' := [some (.ref m), some (.int a1), some (.int a2), some (.int a3), some (.int a4), some (.int a5), some (.int (a3 + a4)), none, none, none]) (nx_wk_s (nx_wk_s (nx_wk_s (nx_wk_s (nx_wk_s (nx_wk_s (nx_wk_s (nx_wk_n (nx_wk_n (nx_wk_n nx_wk_e)))))))))) ?_
    obtain ⟨_, _⟩ := s4
    exact nx_leaf rfl
  · refine nx_iload rfl dX8_goMix_83 rfl ?_
    refine nx_seq (C1 := fun s5 : Int32 => .inl (93, [some (.ref m), some (.int a1), some (.int a2), some (.int a3), some (.int a4), some (.int a5), some (.int (a3 + a4)), some (.int s4.1), none, none], [.int s5], (mW Γ M0 m s4.2))) ?_ (fun s5 => ?_)
    · refine nx_if_ne (t := 92) dX8_goMix_85 (by decide) rfl ?_ ?_
      · refine nx_iload_n rfl dX8_goMix_92 rfl ?_
        obtain ⟨_, _⟩ := s4
        exact nx_leaf rfl
      · refine nx_iload_n rfl dX8_goMix_88 rfl ?_
        refine nx_goto (q := 93) dX8_goMix_89 (by decide) ?_
        obtain ⟨_, _⟩ := s4
        exact nx_leaf rfl
    refine nx_istore [some (.ref m), some (.int a1), some (.int a2), some (.int a3), some (.int a4), some (.int a5), some (.int (a3 + a4)), some (.int s4.1), some (.int s5), none] dX8_goMix_93 rfl (Nat.le_of_ble_eq_true rfl) rfl rfl ?_
    refine nx_iload rfl dX8_goMix_95 rfl ?_
    refine nx_seq (C1 := fun s6 : Int32 => .inl (106, [some (.ref m), some (.int a1), some (.int a2), some (.int a3), some (.int a4), some (.int a5), some (.int (a3 + a4)), some (.int s4.1), some (.int s5), none], [.int s6], (mW Γ M0 m s4.2))) ?_ (fun s6 => ?_)
    · refine nx_if_ne (t := 104) dX8_goMix_97 (by decide) rfl ?_ ?_
      · refine nx_iload rfl dX8_goMix_104 rfl ?_
        obtain ⟨_, _⟩ := s4
        exact nx_leaf rfl
      · refine nx_iload_n rfl dX8_goMix_100 rfl ?_
        refine nx_goto (q := 106) dX8_goMix_101 (by decide) ?_
        obtain ⟨_, _⟩ := s4
        exact nx_leaf rfl
    refine nx_istore [some (.ref m), some (.int a1), some (.int a2), some (.int a3), some (.int a4), some (.int a5), some (.int (a3 + a4)), some (.int s4.1), some (.int s5), some (.int s6)] dX8_goMix_106 rfl (Nat.le_of_ble_eq_true rfl) rfl rfl ?_
    refine nx_iload rfl dX8_goMix_108 rfl ?_
    refine nx_aload_n rfl dX8_goMix_110 rfl ?_
    refine nx_getf fl_8_25 mW_m rfl dX8_goMix_111 rfl ?_
    refine nx_iload rfl dX8_goMix_114 rfl ?_
    refine m_iald 6 ⟨Nat.le_of_ble_eq_true rfl, Nat.le_of_ble_eq_true rfl⟩ dX8_goMix_116 rfl (fun x7 => ?_)
    refine nx_seq (C1 := fun s14 : mS => .inl (179, [some (.ref m), some (.int a1), some (.int a2), some (.int a3), some (.int a4), some (.int a5), some (.int (a3 + a4)), some (.int s4.1), some (.int s5), some (.int s6)], [], (mW Γ M0 m s14))) ?_ (fun s14 => ?_)
    · refine nx_icmp_ge (t := 179) dX8_goMix_117 (by decide) rfl ?_ ?_
      · obtain ⟨_, _⟩ := s4
        exact nx_leaf rfl
      · refine nx_aload_n rfl dX8_goMix_120 rfl ?_
        refine nx_iconst dX8_goMix_121 rfl ?_
        refine m_put fl_8_205 ft_8_16 rfl rfl (Nat.le_of_ble_eq_true rfl) rfl dX8_goMix_122 rfl (fun g8 => ?_)
        refine nx_aload_n rfl dX8_goMix_125 rfl ?_
        refine nx_iload rfl dX8_goMix_126 rfl ?_
        refine nx_iload rfl dX8_goMix_128 rfl ?_
        refine nx_callVr [.int s5, .int s6] (fun r => .int (bz r.1)) (fun r => (mW Γ M0 m r.2)) cw_8_358 cv_X8_doStep (fun r e => cM_doStep X.2.1  e) mW_m rfl rfl (Nat.le_of_ble_eq_true rfl) (Nat.le_trans (Nat.le_of_ble_eq_true rfl : 13 ≤ 13) hd0) dX8_goMix_130 rfl (fun p9 => ?_)
        refine nx_seq (C1 := fun s11 : mS => .inl (168, [some (.ref m), some (.int a1), some (.int a2), some (.int a3), some (.int a4), some (.int a5), some (.int (a3 + a4)), some (.int s4.1), some (.int s5), some (.int s6)], [], (mW Γ M0 m s11))) ?_ (fun s11 => ?_)
        · refine nx_ifz_eq (t := 168) dX8_goMix_133 (by decide) rfl ?_ ?_
          · obtain ⟨_, _⟩ := s4
            obtain ⟨_, _⟩ := p9
            exact nx_leaf rfl
          · refine nx_aload_n rfl dX8_goMix_136 rfl ?_
            refine nx_getf fl_8_205 mW_m rfl dX8_goMix_137 rfl ?_
            refine nx_if_ne (t := 168) dX8_goMix_140 (by decide) rfl ?_ ?_
            · obtain ⟨_, _⟩ := s4
              obtain ⟨_, _⟩ := p9
              exact nx_leaf rfl
            · refine nx_aload_n rfl dX8_goMix_143 rfl ?_
              refine nx_iload_n rfl dX8_goMix_144 rfl ?_
              refine nx_iload_n rfl dX8_goMix_145 rfl ?_
              refine nx_iload_n rfl dX8_goMix_146 rfl ?_
              refine nx_iconst dX8_goMix_147 rfl ?_
              refine nx_iadd dX8_goMix_148 rfl ?_
              refine nx_iload rfl dX8_goMix_149 rfl ?_
              refine nx_isub dX8_goMix_151 rfl ?_
              refine nx_iload rfl dX8_goMix_152 rfl ?_
              refine nx_iload rfl dX8_goMix_154 rfl ?_
              refine nx_iadd dX8_goMix_156 rfl ?_
              refine nx_iload rfl dX8_goMix_157 rfl ?_
              refine nx_iload rfl dX8_goMix_159 rfl ?_
              refine nx_iload rfl dX8_goMix_161 rfl ?_
              refine nx_ishl dX8_goMix_163 rfl ?_
              refine nx_ior dX8_goMix_164 rfl ?_
              refine nx_callVv [.int a1, .int a2, .int ((a3 + (iz 1)) - s4.1), .int (a4 + s4.1), .int (a5 ||| (s4.1 <<< ((a3 + a4) &&& 31)))] (fun r => (mW Γ M0 m r)) cw_8_370 cv_X8_goMix (fun r e => hrc X.2.1  e) mW_m rfl rfl (Nat.le_of_ble_eq_true rfl) hdr dX8_goMix_165 rfl (fun g10 => ?_)
              obtain ⟨_, _⟩ := s4
              exact nx_leaf rfl
        refine nx_aload_n rfl dX8_goMix_168 rfl ?_
        refine nx_iload rfl dX8_goMix_169 rfl ?_
        refine nx_callVv [.int (a3 + a4)] (fun r => (mW Γ M0 m r)) cw_8_352 cv_X8_bringBack (fun r e => cM_bringBack X.2.1  e) mW_m rfl rfl (Nat.le_of_ble_eq_true rfl) (Nat.le_trans (Nat.le_of_ble_eq_true rfl : 2 ≤ 13) hd0) dX8_goMix_171 rfl (fun g12 => ?_)
        refine nx_aload_n rfl dX8_goMix_174 rfl ?_
        refine nx_iconst dX8_goMix_175 rfl ?_
        refine m_put fl_8_168 ft_8_15 (by decide +kernel) (by decide +kernel) (Nat.le_of_ble_eq_true rfl) rfl dX8_goMix_176 rfl (fun g13 => ?_)
        obtain ⟨_, _⟩ := s4
        exact nx_leaf rfl
    refine nx_iinc [some (.ref m), some (.int a1), some (.int a2), some (.int a3), some (.int a4), some (.int a5), some (.int (a3 + a4)), some (.int (s4.1 + iz 1)), some (.int s5), some (.int s6)] dX8_goMix_179 rfl rfl (Nat.le_of_ble_eq_true rfl) rfl rfl ?_
    refine nx_goto (q := 77) dX8_goMix_182 (by decide) ?_
    refine nx_weak (ls' := [some (.ref m), some (.int a1), some (.int a2), some (.int a3), some (.int a4), some (.int a5), some (.int (a3 + a4)), some (.int (s4.1 + iz 1)), none, none]) (nx_wk_s (nx_wk_s (nx_wk_s (nx_wk_s (nx_wk_s (nx_wk_s (nx_wk_s (nx_wk_s (nx_wk_n (nx_wk_n nx_wk_e)))))))))) ?_
    obtain ⟨_, _⟩ := s4
    exact nx_leaf rfl
set_option maxRecDepth 4000 in
theorem jM_goMix_68k0 {Γ : nx_G} {M0 : nx_M} {m : Nat} (u : Nat) (a1 : Int32) (a2 : Int32) (a3 : Int32) (a4 : Int32) (a5 : Int32) (k2 : mS)  (dd : Nat) (hd0 : 13 ≤ dd) (rc : mS → Int32 → Int32 → Int32 → Int32 → Int32 → Option (mS)) (dr : Nat) (hdr : dr + 1 ≤ dd) (hrc : ∀ (l : Launch) {g : mS} {a1 : Int32} {a2 : Int32} {a3 : Int32} {a4 : Int32} {a5 : Int32} {r : mS}, rc g a1 a2 a3 a4 a5 = some r → nx_Ct l Γ dr yX8_goMix cX8_goMix 10 none [.ref m, .int a1, .int a2, .int a3, .int a4, .int a5] (mW Γ M0 m g) (none, (mW Γ M0 m r))) (X : nx_X) (Z : nx_Z) : nx_J Γ X (RX8, cX8_goMix, 10, none, "goMix", dd) Z (fun r0 : mS => .inr (none, (mW Γ M0 m r0))) (.inl (68, [some (.ref m), some (.int a1), some (.int a2), some (.int a3), some (.int a4), some (.int a5), some (.int (a3 + a4)), none, none, none], [], (mW Γ M0 m k2))) (fM_goMix_68k0 u a1 a2 a3 a4 a5 rc k2) := by
  unfold fM_goMix_68k0
  refine nx_aload_n rfl dX8_goMix_68 rfl ?_
  refine nx_iload rfl dX8_goMix_69 rfl ?_
  refine nx_callVv [.int (a3 + a4)] (fun r => (mW Γ M0 m r)) cw_8_349 cv_X8_putAside (fun r e => cM_putAside X.2.1  e) mW_m rfl rfl (Nat.le_of_ble_eq_true rfl) (Nat.le_trans (Nat.le_of_ble_eq_true rfl : 2 ≤ 13) hd0) dX8_goMix_71 rfl (fun g3 => ?_)
  refine nx_iconst dX8_goMix_74 rfl ?_
  refine nx_istore [some (.ref m), some (.int a1), some (.int a2), some (.int a3), some (.int a4), some (.int a5), some (.int (a3 + a4)), some (.int (iz 0)), none, none] dX8_goMix_75 rfl (Nat.le_of_ble_eq_true rfl) rfl rfl ?_
  refine nx_seq (C1 := fun e15 : mS => .inl (185, [some (.ref m), some (.int a1), some (.int a2), some (.int a3), some (.int a4), some (.int a5), some (.int (a3 + a4)), none, none, none], [], (mW Γ M0 m e15))) (nx_loop (C1 := fun s4 : Int32 × mS => .inl (77, [some (.ref m), some (.int a1), some (.int a2), some (.int a3), some (.int a4), some (.int a5), some (.int (a3 + a4)), some (.int s4.1), none, none], [], (mW Γ M0 m s4.2))) (fun s4 => jM_goMix_77  u a1 a2 a3 a4 a5 dd hd0 rc dr hdr hrc X Z s4) ((iz 0), g3)) (fun e15 => ?_)
  exact nx_vret dX8_goMix_185 rfl rfl
set_option maxRecDepth 4000 in
theorem jM_goMix {Γ : nx_G} {M0 : nx_M} {m : Nat} (u : Nat) (g : mS) (a1 : Int32) (a2 : Int32) (a3 : Int32) (a4 : Int32) (a5 : Int32)  (dd : Nat) (hd0 : 13 ≤ dd) (rc : mS → Int32 → Int32 → Int32 → Int32 → Int32 → Option (mS)) (dr : Nat) (hdr : dr + 1 ≤ dd) (hrc : ∀ (l : Launch) {g : mS} {a1 : Int32} {a2 : Int32} {a3 : Int32} {a4 : Int32} {a5 : Int32} {r : mS}, rc g a1 a2 a3 a4 a5 = some r → nx_Ct l Γ dr yX8_goMix cX8_goMix 10 none [.ref m, .int a1, .int a2, .int a3, .int a4, .int a5] (mW Γ M0 m g) (none, (mW Γ M0 m r))) (X : nx_X) (Z : nx_Z) : nx_J Γ X (RX8, cX8_goMix, 10, none, "goMix", dd) Z (fun r0 : mS => .inr (none, (mW Γ M0 m r0))) (.inl (0, [some (.ref m), some (.int a1), some (.int a2), some (.int a3), some (.int a4), some (.int a5), none, none, none, none], [], (mW Γ M0 m g))) (fM_goMix_b u rc g a1 a2 a3 a4 a5) := by
  unfold fM_goMix_b
  refine nx_iload_n rfl dX8_goMix_0 rfl ?_
  refine nx_iload rfl dX8_goMix_1 rfl ?_
  refine nx_iadd dX8_goMix_3 rfl ?_
  refine nx_istore [some (.ref m), some (.int a1), some (.int a2), some (.int a3), some (.int a4), some (.int a5), some (.int (a3 + a4)), none, none, none] dX8_goMix_4 rfl (Nat.le_of_ble_eq_true rfl) rfl rfl ?_
  refine nx_iload_n rfl dX8_goMix_6 rfl ?_
  refine nx_aload_n rfl dX8_goMix_7 rfl ?_
  refine nx_getf fl_8_25 mW_m rfl dX8_goMix_8 rfl ?_
  refine nx_iload_n rfl dX8_goMix_11 rfl ?_
  refine m_iald 6 ⟨Nat.le_of_ble_eq_true rfl, Nat.le_of_ble_eq_true rfl⟩ dX8_goMix_12 rfl (fun x1 => ?_)
  refine nx_icmp_ne (t := 68) dX8_goMix_13 (by decide) rfl ?_ ?_
  · exact jM_goMix_68k0  u a1 a2 a3 a4 a5 g dd hd0 rc dr hdr hrc X Z
  · refine nx_iload rfl dX8_goMix_16 rfl ?_
    refine nx_aload_n rfl dX8_goMix_18 rfl ?_
    refine nx_getf fl_8_25 mW_m rfl dX8_goMix_19 rfl ?_
    refine nx_iload_n rfl dX8_goMix_22 rfl ?_
    refine m_iald 6 ⟨Nat.le_of_ble_eq_true rfl, Nat.le_of_ble_eq_true rfl⟩ dX8_goMix_23 rfl (fun x16 => ?_)
    refine nx_icmp_ne (t := 68) dX8_goMix_24 (by decide) rfl ?_ ?_
    · exact jM_goMix_68k0  u a1 a2 a3 a4 a5 g dd hd0 rc dr hdr hrc X Z
    · refine nx_aload_n rfl dX8_goMix_27 rfl ?_
      refine nx_dup rfl dX8_goMix_28 rfl ?_
      refine nx_getf fl_8_364 mW_m rfl dX8_goMix_29 rfl ?_
      refine nx_iconst dX8_goMix_32 rfl ?_
      refine nx_iadd dX8_goMix_33 rfl ?_
      refine m_put fl_8_364 ft_8_22 rfl rfl (Nat.le_of_ble_eq_true rfl) rfl dX8_goMix_34 rfl (fun g17 => ?_)
      refine nx_aload_n rfl dX8_goMix_37 rfl ?_
      refine nx_aload_n rfl dX8_goMix_38 rfl ?_
      refine nx_getf fl_8_367 mW_m rfl dX8_goMix_39 rfl ?_
      refine nx_iconst dX8_goMix_42 rfl ?_
      refine nx_seq (C1 := fun s18 : Int32 => .inl (64, [some (.ref m), some (.int a1), some (.int a2), some (.int a3), some (.int a4), some (.int a5), some (.int (a3 + a4)), none, none, none], [.int s18, .ref m], (mW Γ M0 m g17))) ?_ (fun s18 => ?_)
      · refine nx_icmp_eq (t := 55) dX8_goMix_43 (by decide) rfl ?_ ?_
        · refine nx_iload rfl dX8_goMix_55 rfl ?_
          refine nx_goto (q := 64) dX8_goMix_57 (by decide) ?_
          exact nx_leaf rfl
        · refine nx_iload rfl dX8_goMix_46 rfl ?_
          refine nx_aload_n rfl dX8_goMix_48 rfl ?_
          refine nx_getf fl_8_367 mW_m rfl dX8_goMix_49 rfl ?_
          refine nx_icmp_ge (t := 60) dX8_goMix_52 (by decide) rfl ?_ ?_
          · refine nx_aload_n rfl dX8_goMix_60 rfl ?_
            refine nx_getf fl_8_367 mW_m rfl dX8_goMix_61 rfl ?_
            exact nx_leaf rfl
          · refine nx_iload rfl dX8_goMix_55 rfl ?_
            refine nx_goto (q := 64) dX8_goMix_57 (by decide) ?_
            exact nx_leaf rfl
      refine m_put fl_8_367 ft_8_23 rfl rfl (Nat.le_of_ble_eq_true rfl) rfl dX8_goMix_64 rfl (fun g19 => ?_)
      exact nx_vret dX8_goMix_67 rfl rfl
def fM_goMix : Nat → Nat → mS → Int32 → Int32 → Int32 → Int32 → Int32 → Option (mS)
  | 0, _, _, _, _, _, _, _ => none
  | n + 1, u, g, a1, a2, a3, a4, a5 => fM_goMix_b u (fM_goMix n u) g a1 a2 a3 a4 a5
theorem cM_goMix (n : Nat) (l : Launch) {Γ : nx_G} {M0 : nx_M} {m : Nat} {u : Nat} {g : mS} {a1 : Int32} {a2 : Int32} {a3 : Int32} {a4 : Int32} {a5 : Int32} {r : mS} (h : fM_goMix n u g a1 a2 a3 a4 a5 = some r) : nx_Ct l Γ (13 + n) yX8_goMix cX8_goMix 10 none [.ref m, .int a1, .int a2, .int a3, .int a4, .int a5] (mW Γ M0 m g) (none, (mW Γ M0 m r)) := by
  induction n generalizing l g a1 a2 a3 a4 a5 r with
  | zero => cases h
  | succ n ih => exact nx_ct (out := fun r0 : mS => (none, (mW Γ M0 m r0))) [some (.ref m), some (.int a1), some (.int a2), some (.int a3), some (.int a4), some (.int a5), none, none, none, none] pn_RX8 h (Nat.le_of_ble_eq_true rfl) rfl (fun X Z _ => jM_goMix  u g a1 a2 a3 a4 a5 (13 + (n + 1)) (Nat.le_add_right _ _) (fM_goMix n u) (13 + n) (Nat.le_refl _) (fun l _ _ _ _ _ _ _ e => ih l e) X Z)
theorem dX8_mix_0 : decode cX8_mix 0 = .ok (.aload_n 0, 1) := by decide +kernel
theorem dX8_mix_1 : decode cX8_mix 1 = .ok (.invokevirtual 158, 3) := by decide +kernel
theorem dX8_mix_4 : decode cX8_mix 4 = .ok (.ifCond .eq 50, 3) := by decide +kernel
theorem dX8_mix_7 : decode cX8_mix 7 = .ok (.aload_n 0, 1) := by decide +kernel
theorem dX8_mix_8 : decode cX8_mix 8 = .ok (.iload_n 1, 1) := by decide +kernel
theorem dX8_mix_9 : decode cX8_mix 9 = .ok (.invokevirtual 355, 3) := by decide +kernel
theorem dX8_mix_12 : decode cX8_mix 12 = .ok (.ifCond .eq 42, 3) := by decide +kernel
theorem dX8_mix_15 : decode cX8_mix 15 = .ok (.aload_n 0, 1) := by decide +kernel
theorem dX8_mix_16 : decode cX8_mix 16 = .ok (.iload_n 2, 1) := by decide +kernel
theorem dX8_mix_17 : decode cX8_mix 17 = .ok (.invokevirtual 355, 3) := by decide +kernel
theorem dX8_mix_20 : decode cX8_mix 20 = .ok (.ifCond .eq 34, 3) := by decide +kernel
theorem dX8_mix_23 : decode cX8_mix 23 = .ok (.aload_n 0, 1) := by decide +kernel
theorem dX8_mix_24 : decode cX8_mix 24 = .ok (.getfield 25, 3) := by decide +kernel
theorem dX8_mix_27 : decode cX8_mix 27 = .ok (.iload_n 1, 1) := by decide +kernel
theorem dX8_mix_28 : decode cX8_mix 28 = .ok (.iaload, 1) := by decide +kernel
theorem dX8_mix_29 : decode cX8_mix 29 = .ok (.bipush 6, 2) := by decide +kernel
theorem dX8_mix_31 : decode cX8_mix 31 = .ok (.if_icmp .gt 23, 3) := by decide +kernel
theorem dX8_mix_34 : decode cX8_mix 34 = .ok (.aload_n 0, 1) := by decide +kernel
theorem dX8_mix_35 : decode cX8_mix 35 = .ok (.getfield 25, 3) := by decide +kernel
theorem dX8_mix_38 : decode cX8_mix 38 = .ok (.iload_n 2, 1) := by decide +kernel
theorem dX8_mix_39 : decode cX8_mix 39 = .ok (.iaload, 1) := by decide +kernel
theorem dX8_mix_40 : decode cX8_mix 40 = .ok (.bipush 6, 2) := by decide +kernel
theorem dX8_mix_42 : decode cX8_mix 42 = .ok (.if_icmp .gt 12, 3) := by decide +kernel
theorem dX8_mix_45 : decode cX8_mix 45 = .ok (.iload_n 3, 1) := by decide +kernel
theorem dX8_mix_46 : decode cX8_mix 46 = .ok (.iconst 0, 1) := by decide +kernel
theorem dX8_mix_47 : decode cX8_mix 47 = .ok (.iconst 2, 1) := by decide +kernel
theorem dX8_mix_48 : decode cX8_mix 48 = .ok (.invokestatic 61, 3) := by decide +kernel
theorem dX8_mix_51 : decode cX8_mix 51 = .ok (.ifCond .ne 7, 3) := by decide +kernel
theorem dX8_mix_54 : decode cX8_mix 54 = .ok (.ldc_w 336, 3) := by decide +kernel
theorem dX8_mix_57 : decode cX8_mix 57 = .ok (.ireturn, 1) := by decide +kernel
theorem dX8_mix_58 : decode cX8_mix 58 = .ok (.iconst 1, 1) := by decide +kernel
theorem dX8_mix_59 : decode cX8_mix 59 = .ok (.istore 4, 2) := by decide +kernel
theorem dX8_mix_61 : decode cX8_mix 61 = .ok (.iconst 1, 1) := by decide +kernel
theorem dX8_mix_62 : decode cX8_mix 62 = .ok (.istore 5, 2) := by decide +kernel
theorem dX8_mix_64 : decode cX8_mix 64 = .ok (.iload 5, 2) := by decide +kernel
theorem dX8_mix_66 : decode cX8_mix 66 = .ok (.aload_n 0, 1) := by decide +kernel
theorem dX8_mix_67 : decode cX8_mix 67 = .ok (.getfield 25, 3) := by decide +kernel
theorem dX8_mix_70 : decode cX8_mix 70 = .ok (.iload_n 2, 1) := by decide +kernel
theorem dX8_mix_71 : decode cX8_mix 71 = .ok (.iaload, 1) := by decide +kernel
theorem dX8_mix_72 : decode cX8_mix 72 = .ok (.if_icmp .gt 26, 3) := by decide +kernel
theorem dX8_mix_75 : decode cX8_mix 75 = .ok (.iload 4, 2) := by decide +kernel
theorem dX8_mix_77 : decode cX8_mix 77 = .ok (.aload_n 0, 1) := by decide +kernel
theorem dX8_mix_78 : decode cX8_mix 78 = .ok (.getfield 25, 3) := by decide +kernel
theorem dX8_mix_81 : decode cX8_mix 81 = .ok (.iload_n 1, 1) := by decide +kernel
theorem dX8_mix_82 : decode cX8_mix 82 = .ok (.iaload, 1) := by decide +kernel
theorem dX8_mix_83 : decode cX8_mix 83 = .ok (.iload 5, 2) := by decide +kernel
theorem dX8_mix_85 : decode cX8_mix 85 = .ok (.iadd, 1) := by decide +kernel
theorem dX8_mix_86 : decode cX8_mix 86 = .ok (.imul, 1) := by decide +kernel
theorem dX8_mix_87 : decode cX8_mix 87 = .ok (.iload 5, 2) := by decide +kernel
theorem dX8_mix_89 : decode cX8_mix 89 = .ok (.idiv, 1) := by decide +kernel
theorem dX8_mix_90 : decode cX8_mix 90 = .ok (.istore 4, 2) := by decide +kernel
theorem dX8_mix_92 : decode cX8_mix 92 = .ok (.iinc 5 1, 3) := by decide +kernel
theorem dX8_mix_95 : decode cX8_mix 95 = .ok (.goto (-31), 3) := by decide +kernel
theorem dX8_mix_98 : decode cX8_mix 98 = .ok (.aload_n 0, 1) := by decide +kernel
theorem dX8_mix_99 : decode cX8_mix 99 = .ok (.iconst 0, 1) := by decide +kernel
theorem dX8_mix_100 : decode cX8_mix 100 = .ok (.putfield 364, 3) := by decide +kernel
theorem dX8_mix_103 : decode cX8_mix 103 = .ok (.aload_n 0, 1) := by decide +kernel
theorem dX8_mix_104 : decode cX8_mix 104 = .ok (.iconst (-1), 1) := by decide +kernel
theorem dX8_mix_105 : decode cX8_mix 105 = .ok (.putfield 367, 3) := by decide +kernel
theorem dX8_mix_108 : decode cX8_mix 108 = .ok (.aload_n 0, 1) := by decide +kernel
theorem dX8_mix_109 : decode cX8_mix 109 = .ok (.iload_n 1, 1) := by decide +kernel
theorem dX8_mix_110 : decode cX8_mix 110 = .ok (.iload_n 2, 1) := by decide +kernel
theorem dX8_mix_111 : decode cX8_mix 111 = .ok (.iconst 0, 1) := by decide +kernel
theorem dX8_mix_112 : decode cX8_mix 112 = .ok (.iconst 0, 1) := by decide +kernel
theorem dX8_mix_113 : decode cX8_mix 113 = .ok (.iconst 0, 1) := by decide +kernel
theorem dX8_mix_114 : decode cX8_mix 114 = .ok (.invokevirtual 370, 3) := by decide +kernel
theorem dX8_mix_117 : decode cX8_mix 117 = .ok (.aload_n 0, 1) := by decide +kernel
theorem dX8_mix_118 : decode cX8_mix 118 = .ok (.iconst 0, 1) := by decide +kernel
theorem dX8_mix_119 : decode cX8_mix 119 = .ok (.putfield 168, 3) := by decide +kernel
theorem dX8_mix_122 : decode cX8_mix 122 = .ok (.iload_n 3, 1) := by decide +kernel
theorem dX8_mix_123 : decode cX8_mix 123 = .ok (.ifCond .ne 8, 3) := by decide +kernel
theorem dX8_mix_126 : decode cX8_mix 126 = .ok (.iload 4, 2) := by decide +kernel
theorem dX8_mix_128 : decode cX8_mix 128 = .ok (.goto 19, 3) := by decide +kernel
theorem dX8_mix_131 : decode cX8_mix 131 = .ok (.iload_n 3, 1) := by decide +kernel
theorem dX8_mix_132 : decode cX8_mix 132 = .ok (.iconst 1, 1) := by decide +kernel
theorem dX8_mix_133 : decode cX8_mix 133 = .ok (.if_icmp .ne 10, 3) := by decide +kernel
theorem dX8_mix_136 : decode cX8_mix 136 = .ok (.aload_n 0, 1) := by decide +kernel
theorem dX8_mix_137 : decode cX8_mix 137 = .ok (.getfield 364, 3) := by decide +kernel
theorem dX8_mix_140 : decode cX8_mix 140 = .ok (.goto 7, 3) := by decide +kernel
theorem dX8_mix_143 : decode cX8_mix 143 = .ok (.aload_n 0, 1) := by decide +kernel
theorem dX8_mix_144 : decode cX8_mix 144 = .ok (.getfield 367, 3) := by decide +kernel
theorem dX8_mix_147 : decode cX8_mix 147 = .ok (.ireturn, 1) := by decide +kernel
def fM_mix_64 (g : mS) (a1 : Int32) (a2 : Int32) (s7 : Int32 × Int32) : Option ((Int32 × Int32) ⊕ (Int32)) :=
  (nx_rd (mlen 6) (g.1 6) a2).bind fun x8 =>
  if x8 < s7.2 then
    some (.inr s7.1)
  else
    (nx_rd (mlen 6) (g.1 6) a1).bind fun x9 =>
    (nx_dv (s7.1 * (x9 + s7.2)) s7.2).bind fun x10 =>
    some (.inl (x10, (s7.2 + iz 1)))
def fM_mix (u : Nat) (g : mS) (a1 : Int32) (a2 : Int32) (a3 : Int32) : Option (Int32 × mS) :=
  (fM_isStore u g).bind fun b1 =>
  if b1 = true then
    (fM_isScript u g a1).bind fun b2 =>
    if b2 = true then
      (fM_isScript u g a2).bind fun b3 =>
      if b3 = true then
        (nx_rd (mlen 6) (g.1 6) a1).bind fun x4 =>
        if (iz 6) < x4 then
          some (((-1000000) : Int32), g)
        else
          (nx_rd (mlen 6) (g.1 6) a2).bind fun x5 =>
          if (iz 6) < x5 then
            some (((-1000000) : Int32), g)
          else
            (fM_in u a3 (iz 0) (iz 2)).bind fun b6 =>
            if b6 = true then
              (nx_iter u (fM_mix_64 g a1 a2) ((iz 1), (iz 1))).bind fun e11 =>
              (some (mFs g 22 (iz 0))).bind fun g12 =>
              (some (mFs g12 23 (iz (-1)))).bind fun g13 =>
              (fM_goMix 20 u g13 a1 a2 (iz 0) (iz 0) (iz 0)).bind fun g14 =>
              (some (mFs g14 15 (iz 0))).bind fun g15 =>
              if a3 = iz 0 then
                some (e11, g15)
              else
                if a3 = (iz 1) then
                  some ((g15.1 0 22), g15)
                else
                  some ((g15.1 0 23), g15)
            else
              some (((-1000000) : Int32), g)
      else
        some (((-1000000) : Int32), g)
    else
      some (((-1000000) : Int32), g)
  else
    some (((-1000000) : Int32), g)
set_option maxRecDepth 4000 in
theorem jM_mix_64 {Γ : nx_G} {M0 : nx_M} {m : Nat} (g : mS) (a1 : Int32) (a2 : Int32) (a3 : Int32)   (X : nx_X) (Z : nx_Z) (s7 : Int32 × Int32) : nx_J Γ X (RX8, cX8_mix, 6, (some .int), "mix", 34) Z (Sum.elim (fun s7 : Int32 × Int32 => .inl (64, [some (.ref m), some (.int a1), some (.int a2), some (.int a3), some (.int s7.1), some (.int s7.2)], [], (mW Γ M0 m g))) (fun e11 : Int32 => .inl (98, [some (.ref m), some (.int a1), some (.int a2), some (.int a3), some (.int e11), none], [], (mW Γ M0 m g)))) (.inl (64, [some (.ref m), some (.int a1), some (.int a2), some (.int a3), some (.int s7.1), some (.int s7.2)], [], (mW Γ M0 m g))) (fM_mix_64 g a1 a2 s7) := by
  unfold fM_mix_64
  refine nx_iload rfl dX8_mix_64 rfl ?_
  refine nx_aload_n rfl dX8_mix_66 rfl ?_
  refine nx_getf fl_8_25 mW_m rfl dX8_mix_67 rfl ?_
  refine nx_iload_n rfl dX8_mix_70 rfl ?_
  refine m_iald 6 ⟨Nat.le_of_ble_eq_true rfl, Nat.le_of_ble_eq_true rfl⟩ dX8_mix_71 rfl (fun x8 => ?_)
  refine nx_icmp_gt (t := 98) dX8_mix_72 (by decide) rfl ?_ ?_
  · refine nx_weak (ls' := [some (.ref m), some (.int a1), some (.int a2), some (.int a3), some (.int s7.1), none]) (nx_wk_s (nx_wk_s (nx_wk_s (nx_wk_s (nx_wk_s (nx_wk_n nx_wk_e)))))) ?_
    obtain ⟨_, _⟩ := s7
    exact nx_leaf rfl
  · refine nx_iload rfl dX8_mix_75 rfl ?_
    refine nx_aload_n rfl dX8_mix_77 rfl ?_
    refine nx_getf fl_8_25 mW_m rfl dX8_mix_78 rfl ?_
    refine nx_iload_n rfl dX8_mix_81 rfl ?_
    refine m_iald 6 ⟨Nat.le_of_ble_eq_true rfl, Nat.le_of_ble_eq_true rfl⟩ dX8_mix_82 rfl (fun x9 => ?_)
    refine nx_iload rfl dX8_mix_83 rfl ?_
    refine nx_iadd dX8_mix_85 rfl ?_
    refine nx_imul dX8_mix_86 rfl ?_
    refine nx_iload rfl dX8_mix_87 rfl ?_
    refine nx_idiv dX8_mix_89 rfl (fun x10 => ?_)
    refine nx_istore [some (.ref m), some (.int a1), some (.int a2), some (.int a3), some (.int x10), some (.int s7.2)] dX8_mix_90 rfl (Nat.le_of_ble_eq_true rfl) rfl rfl ?_
    refine nx_iinc [some (.ref m), some (.int a1), some (.int a2), some (.int a3), some (.int x10), some (.int (s7.2 + iz 1))] dX8_mix_92 rfl rfl (Nat.le_of_ble_eq_true rfl) rfl rfl ?_
    refine nx_goto (q := 64) dX8_mix_95 (by decide) ?_
    obtain ⟨_, _⟩ := s7
    exact nx_leaf rfl
set_option maxRecDepth 4000 in
theorem jM_mix {Γ : nx_G} {M0 : nx_M} {m : Nat} (u : Nat) (g : mS) (a1 : Int32) (a2 : Int32) (a3 : Int32)   (X : nx_X) (Z : nx_Z) : nx_J Γ X (RX8, cX8_mix, 6, (some .int), "mix", 34) Z (fun r0 : Int32 × mS => .inr (some (.int r0.1), (mW Γ M0 m r0.2))) (.inl (0, [some (.ref m), some (.int a1), some (.int a2), some (.int a3), none, none], [], (mW Γ M0 m g))) (fM_mix u g a1 a2 a3) := by
  unfold fM_mix
  refine nx_aload_n rfl dX8_mix_0 rfl ?_
  refine nx_callVr [] (fun r => .int (bz r)) (fun _ => (mW Γ M0 m g)) cw_8_158 cv_X8_isStore (fun r e => cM_isStore X.2.1  e) mW_m rfl rfl (Nat.le_of_ble_eq_true rfl) (Nat.le_of_ble_eq_true rfl) dX8_mix_1 rfl (fun b1 => ?_)
  refine nx_ifz_eq (t := 54) dX8_mix_4 (by decide) rfl ?_ ?_
  · refine nx_ldcw wd_1580 dX8_mix_54 rfl ?_
    exact nx_iret dX8_mix_57 rfl rfl
  · refine nx_aload_n rfl dX8_mix_7 rfl ?_
    refine nx_iload_n rfl dX8_mix_8 rfl ?_
    refine nx_callVr [.int a1] (fun r => .int (bz r)) (fun _ => (mW Γ M0 m g)) cw_8_355 cv_X8_isScript (fun r e => cM_isScript X.2.1  e) mW_m rfl rfl (Nat.le_of_ble_eq_true rfl) (Nat.le_of_ble_eq_true rfl) dX8_mix_9 rfl (fun b2 => ?_)
    refine nx_ifz_eq (t := 54) dX8_mix_12 (by decide) rfl ?_ ?_
    · refine nx_ldcw wd_1580 dX8_mix_54 rfl ?_
      exact nx_iret dX8_mix_57 rfl rfl
    · refine nx_aload_n rfl dX8_mix_15 rfl ?_
      refine nx_iload_n rfl dX8_mix_16 rfl ?_
      refine nx_callVr [.int a2] (fun r => .int (bz r)) (fun _ => (mW Γ M0 m g)) cw_8_355 cv_X8_isScript (fun r e => cM_isScript X.2.1  e) mW_m rfl rfl (Nat.le_of_ble_eq_true rfl) (Nat.le_of_ble_eq_true rfl) dX8_mix_17 rfl (fun b3 => ?_)
      refine nx_ifz_eq (t := 54) dX8_mix_20 (by decide) rfl ?_ ?_
      · refine nx_ldcw wd_1580 dX8_mix_54 rfl ?_
        exact nx_iret dX8_mix_57 rfl rfl
      · refine nx_aload_n rfl dX8_mix_23 rfl ?_
        refine nx_getf fl_8_25 mW_m rfl dX8_mix_24 rfl ?_
        refine nx_iload_n rfl dX8_mix_27 rfl ?_
        refine m_iald 6 ⟨Nat.le_of_ble_eq_true rfl, Nat.le_of_ble_eq_true rfl⟩ dX8_mix_28 rfl (fun x4 => ?_)
        refine nx_bipush (by decide +kernel) dX8_mix_29 rfl ?_
        refine nx_icmp_gt (t := 54) dX8_mix_31 (by decide) rfl ?_ ?_
        · refine nx_ldcw wd_1580 dX8_mix_54 rfl ?_
          exact nx_iret dX8_mix_57 rfl rfl
        · refine nx_aload_n rfl dX8_mix_34 rfl ?_
          refine nx_getf fl_8_25 mW_m rfl dX8_mix_35 rfl ?_
          refine nx_iload_n rfl dX8_mix_38 rfl ?_
          refine m_iald 6 ⟨Nat.le_of_ble_eq_true rfl, Nat.le_of_ble_eq_true rfl⟩ dX8_mix_39 rfl (fun x5 => ?_)
          refine nx_bipush (by decide +kernel) dX8_mix_40 rfl ?_
          refine nx_icmp_gt (t := 54) dX8_mix_42 (by decide) rfl ?_ ?_
          · refine nx_ldcw wd_1580 dX8_mix_54 rfl ?_
            exact nx_iret dX8_mix_57 rfl rfl
          · refine nx_iload_n rfl dX8_mix_45 rfl ?_
            refine nx_iconst dX8_mix_46 rfl ?_
            refine nx_iconst dX8_mix_47 rfl ?_
            refine nx_callSr [.int a3, .int (iz 0), .int (iz 2)] (fun r => .int (bz r)) (fun _ => (mW Γ M0 m g)) cw_8_61 wd_1243 (fun r e => cM_in X.2.1  e) rfl rfl (Nat.le_of_ble_eq_true rfl) (Nat.le_of_ble_eq_true rfl) dX8_mix_48 rfl (fun b6 => ?_)
            refine nx_ifz_ne (t := 58) dX8_mix_51 (by decide) rfl ?_ ?_
            · refine nx_iconst dX8_mix_58 rfl ?_
              refine nx_istore [some (.ref m), some (.int a1), some (.int a2), some (.int a3), some (.int (iz 1)), none] dX8_mix_59 rfl (Nat.le_of_ble_eq_true rfl) rfl rfl ?_
              refine nx_iconst dX8_mix_61 rfl ?_
              refine nx_istore [some (.ref m), some (.int a1), some (.int a2), some (.int a3), some (.int (iz 1)), some (.int (iz 1))] dX8_mix_62 rfl (Nat.le_of_ble_eq_true rfl) rfl rfl ?_
              refine nx_seq (C1 := fun e11 : Int32 => .inl (98, [some (.ref m), some (.int a1), some (.int a2), some (.int a3), some (.int e11), none], [], (mW Γ M0 m g))) (nx_loop (C1 := fun s7 : Int32 × Int32 => .inl (64, [some (.ref m), some (.int a1), some (.int a2), some (.int a3), some (.int s7.1), some (.int s7.2)], [], (mW Γ M0 m g))) (fun s7 => jM_mix_64  g a1 a2 a3 X Z s7) ((iz 1), (iz 1))) (fun e11 => ?_)
              refine nx_aload_n rfl dX8_mix_98 rfl ?_
              refine nx_iconst dX8_mix_99 rfl ?_
              refine m_put fl_8_364 ft_8_22 rfl rfl (Nat.le_of_ble_eq_true rfl) rfl dX8_mix_100 rfl (fun g12 => ?_)
              refine nx_aload_n rfl dX8_mix_103 rfl ?_
              refine nx_iconst dX8_mix_104 rfl ?_
              refine m_put fl_8_367 ft_8_23 rfl rfl (Nat.le_of_ble_eq_true rfl) rfl dX8_mix_105 rfl (fun g13 => ?_)
              refine nx_aload_n rfl dX8_mix_108 rfl ?_
              refine nx_iload_n rfl dX8_mix_109 rfl ?_
              refine nx_iload_n rfl dX8_mix_110 rfl ?_
              refine nx_iconst dX8_mix_111 rfl ?_
              refine nx_iconst dX8_mix_112 rfl ?_
              refine nx_iconst dX8_mix_113 rfl ?_
              refine nx_callVv [.int a1, .int a2, .int (iz 0), .int (iz 0), .int (iz 0)] (fun r => (mW Γ M0 m r)) cw_8_370 cv_X8_goMix (fun r e => cM_goMix 20 X.2.1  e) mW_m rfl rfl (Nat.le_of_ble_eq_true rfl) (Nat.le_of_ble_eq_true rfl) dX8_mix_114 rfl (fun g14 => ?_)
              refine nx_aload_n rfl dX8_mix_117 rfl ?_
              refine nx_iconst dX8_mix_118 rfl ?_
              refine m_put fl_8_168 ft_8_15 (by decide +kernel) (by decide +kernel) (Nat.le_of_ble_eq_true rfl) rfl dX8_mix_119 rfl (fun g15 => ?_)
              refine nx_iload_n rfl dX8_mix_122 rfl ?_
              refine nx_if_ne (t := 131) dX8_mix_123 (by decide) rfl ?_ ?_
              · refine nx_iload_n rfl dX8_mix_131 rfl ?_
                refine nx_iconst dX8_mix_132 rfl ?_
                refine nx_icmp_ne (t := 143) dX8_mix_133 (by decide) rfl ?_ ?_
                · refine nx_aload_n rfl dX8_mix_143 rfl ?_
                  refine nx_getf fl_8_367 mW_m rfl dX8_mix_144 rfl ?_
                  exact nx_iret dX8_mix_147 rfl rfl
                · refine nx_aload_n rfl dX8_mix_136 rfl ?_
                  refine nx_getf fl_8_364 mW_m rfl dX8_mix_137 rfl ?_
                  refine nx_goto (q := 147) dX8_mix_140 (by decide) ?_
                  exact nx_iret dX8_mix_147 rfl rfl
              · refine nx_iload rfl dX8_mix_126 rfl ?_
                refine nx_goto (q := 147) dX8_mix_128 (by decide) ?_
                exact nx_iret dX8_mix_147 rfl rfl
            · refine nx_ldcw wd_1580 dX8_mix_54 rfl ?_
              exact nx_iret dX8_mix_57 rfl rfl
theorem cM_mix (l : Launch) {Γ : nx_G} {M0 : nx_M} {m : Nat} {u : Nat} {g : mS} {a1 : Int32} {a2 : Int32} {a3 : Int32} {r : Int32 × mS}  (h : fM_mix u g a1 a2 a3 = some r) : nx_Ct l Γ 34 yX8_mix cX8_mix 6 (some .int) [.ref m, .int a1, .int a2, .int a3] (mW Γ M0 m g) (some (.int r.1), (mW Γ M0 m r.2)) :=
  nx_ct (out := fun r0 : Int32 × mS => (some (.int r0.1), (mW Γ M0 m r0.2))) [some (.ref m), some (.int a1), some (.int a2), some (.int a3), none, none] pn_RX8 h (Nat.le_of_ble_eq_true rfl) rfl (fun X Z _ => jM_mix  u g a1 a2 a3 X Z)
theorem dX8_oddsFrom_0 : decode cX8_oddsFrom 0 = .ok (.aload_n 0, 1) := by decide +kernel
theorem dX8_oddsFrom_1 : decode cX8_oddsFrom 1 = .ok (.iload 5, 2) := by decide +kernel
theorem dX8_oddsFrom_3 : decode cX8_oddsFrom 3 = .ok (.invokevirtual 349, 3) := by decide +kernel
theorem dX8_oddsFrom_6 : decode cX8_oddsFrom 6 = .ok (.iconst 0, 1) := by decide +kernel
theorem dX8_oddsFrom_7 : decode cX8_oddsFrom 7 = .ok (.istore 6, 2) := by decide +kernel
theorem dX8_oddsFrom_9 : decode cX8_oddsFrom 9 = .ok (.iload_n 2, 1) := by decide +kernel
theorem dX8_oddsFrom_10 : decode cX8_oddsFrom 10 = .ok (.ifCond .ne 27, 3) := by decide +kernel
theorem dX8_oddsFrom_13 : decode cX8_oddsFrom 13 = .ok (.aload_n 0, 1) := by decide +kernel
theorem dX8_oddsFrom_14 : decode cX8_oddsFrom 14 = .ok (.iload_n 1, 1) := by decide +kernel
theorem dX8_oddsFrom_15 : decode cX8_oddsFrom 15 = .ok (.invokevirtual 374, 3) := by decide +kernel
theorem dX8_oddsFrom_18 : decode cX8_oddsFrom 18 = .ok (.iload 4, 2) := by decide +kernel
theorem dX8_oddsFrom_20 : decode cX8_oddsFrom 20 = .ok (.imul, 1) := by decide +kernel
theorem dX8_oddsFrom_21 : decode cX8_oddsFrom 21 = .ok (.istore 6, 2) := by decide +kernel
theorem dX8_oddsFrom_23 : decode cX8_oddsFrom 23 = .ok (.aload_n 0, 1) := by decide +kernel
theorem dX8_oddsFrom_24 : decode cX8_oddsFrom 24 = .ok (.iload 5, 2) := by decide +kernel
theorem dX8_oddsFrom_26 : decode cX8_oddsFrom 26 = .ok (.invokevirtual 352, 3) := by decide +kernel
theorem dX8_oddsFrom_29 : decode cX8_oddsFrom 29 = .ok (.aload_n 0, 1) := by decide +kernel
theorem dX8_oddsFrom_30 : decode cX8_oddsFrom 30 = .ok (.iconst 1, 1) := by decide +kernel
theorem dX8_oddsFrom_31 : decode cX8_oddsFrom 31 = .ok (.putfield 168, 3) := by decide +kernel
theorem dX8_oddsFrom_34 : decode cX8_oddsFrom 34 = .ok (.iload 6, 2) := by decide +kernel
theorem dX8_oddsFrom_36 : decode cX8_oddsFrom 36 = .ok (.ireturn, 1) := by decide +kernel
theorem dX8_oddsFrom_37 : decode cX8_oddsFrom 37 = .ok (.iconst 0, 1) := by decide +kernel
theorem dX8_oddsFrom_38 : decode cX8_oddsFrom 38 = .ok (.istore 7, 2) := by decide +kernel
theorem dX8_oddsFrom_40 : decode cX8_oddsFrom 40 = .ok (.iload_n 2, 1) := by decide +kernel
theorem dX8_oddsFrom_41 : decode cX8_oddsFrom 41 = .ok (.iload 7, 2) := by decide +kernel
theorem dX8_oddsFrom_43 : decode cX8_oddsFrom 43 = .ok (.invokestatic 92, 3) := by decide +kernel
theorem dX8_oddsFrom_46 : decode cX8_oddsFrom 46 = .ok (.ifCond .ne 9, 3) := by decide +kernel
theorem dX8_oddsFrom_49 : decode cX8_oddsFrom 49 = .ok (.iinc 7 1, 3) := by decide +kernel
theorem dX8_oddsFrom_52 : decode cX8_oddsFrom 52 = .ok (.goto (-12), 3) := by decide +kernel
theorem dX8_oddsFrom_55 : decode cX8_oddsFrom 55 = .ok (.iload 4, 2) := by decide +kernel
theorem dX8_oddsFrom_57 : decode cX8_oddsFrom 57 = .ok (.i2l, 1) := by decide +kernel
theorem dX8_oddsFrom_58 : decode cX8_oddsFrom 58 = .ok (.iload_n 3, 1) := by decide +kernel
theorem dX8_oddsFrom_59 : decode cX8_oddsFrom 59 = .ok (.i2l, 1) := by decide +kernel
theorem dX8_oddsFrom_60 : decode cX8_oddsFrom 60 = .ok (.lmul, 1) := by decide +kernel
theorem dX8_oddsFrom_61 : decode cX8_oddsFrom 61 = .ok (.ldc2_w 377, 3) := by decide +kernel
theorem dX8_oddsFrom_64 : decode cX8_oddsFrom 64 = .ok (.ldiv, 1) := by decide +kernel
theorem dX8_oddsFrom_65 : decode cX8_oddsFrom 65 = .ok (.l2i, 1) := by decide +kernel
theorem dX8_oddsFrom_66 : decode cX8_oddsFrom 66 = .ok (.istore 8, 2) := by decide +kernel
theorem dX8_oddsFrom_68 : decode cX8_oddsFrom 68 = .ok (.aload_n 0, 1) := by decide +kernel
theorem dX8_oddsFrom_69 : decode cX8_oddsFrom 69 = .ok (.iload 7, 2) := by decide +kernel
theorem dX8_oddsFrom_71 : decode cX8_oddsFrom 71 = .ok (.invokevirtual 180, 3) := by decide +kernel
theorem dX8_oddsFrom_74 : decode cX8_oddsFrom 74 = .ok (.ifCond .eq 10, 3) := by decide +kernel
theorem dX8_oddsFrom_77 : decode cX8_oddsFrom 77 = .ok (.aload_n 0, 1) := by decide +kernel
theorem dX8_oddsFrom_78 : decode cX8_oddsFrom 78 = .ok (.iload 7, 2) := by decide +kernel
theorem dX8_oddsFrom_80 : decode cX8_oddsFrom 80 = .ok (.invokevirtual 223, 3) := by decide +kernel
theorem dX8_oddsFrom_83 : decode cX8_oddsFrom 83 = .ok (.pop, 1) := by decide +kernel
theorem dX8_oddsFrom_84 : decode cX8_oddsFrom 84 = .ok (.iload 6, 2) := by decide +kernel
theorem dX8_oddsFrom_86 : decode cX8_oddsFrom 86 = .ok (.aload_n 0, 1) := by decide +kernel
theorem dX8_oddsFrom_87 : decode cX8_oddsFrom 87 = .ok (.iload_n 1, 1) := by decide +kernel
theorem dX8_oddsFrom_88 : decode cX8_oddsFrom 88 = .ok (.iload_n 2, 1) := by decide +kernel
theorem dX8_oddsFrom_89 : decode cX8_oddsFrom 89 = .ok (.iload_n 2, 1) := by decide +kernel
theorem dX8_oddsFrom_90 : decode cX8_oddsFrom 90 = .ok (.iconst 1, 1) := by decide +kernel
theorem dX8_oddsFrom_91 : decode cX8_oddsFrom 91 = .ok (.isub, 1) := by decide +kernel
theorem dX8_oddsFrom_92 : decode cX8_oddsFrom 92 = .ok (.iand, 1) := by decide +kernel
theorem dX8_oddsFrom_93 : decode cX8_oddsFrom 93 = .ok (.iload_n 3, 1) := by decide +kernel
theorem dX8_oddsFrom_94 : decode cX8_oddsFrom 94 = .ok (.iload 8, 2) := by decide +kernel
theorem dX8_oddsFrom_96 : decode cX8_oddsFrom 96 = .ok (.iload 5, 2) := by decide +kernel
theorem dX8_oddsFrom_98 : decode cX8_oddsFrom 98 = .ok (.iconst 1, 1) := by decide +kernel
theorem dX8_oddsFrom_99 : decode cX8_oddsFrom 99 = .ok (.iadd, 1) := by decide +kernel
theorem dX8_oddsFrom_100 : decode cX8_oddsFrom 100 = .ok (.invokevirtual 379, 3) := by decide +kernel
theorem dX8_oddsFrom_103 : decode cX8_oddsFrom 103 = .ok (.iadd, 1) := by decide +kernel
theorem dX8_oddsFrom_104 : decode cX8_oddsFrom 104 = .ok (.istore 6, 2) := by decide +kernel
theorem dX8_oddsFrom_106 : decode cX8_oddsFrom 106 = .ok (.aload_n 0, 1) := by decide +kernel
theorem dX8_oddsFrom_107 : decode cX8_oddsFrom 107 = .ok (.iload 5, 2) := by decide +kernel
theorem dX8_oddsFrom_109 : decode cX8_oddsFrom 109 = .ok (.invokevirtual 352, 3) := by decide +kernel
theorem dX8_oddsFrom_112 : decode cX8_oddsFrom 112 = .ok (.aload_n 0, 1) := by decide +kernel
theorem dX8_oddsFrom_113 : decode cX8_oddsFrom 113 = .ok (.iconst 1, 1) := by decide +kernel
theorem dX8_oddsFrom_114 : decode cX8_oddsFrom 114 = .ok (.putfield 168, 3) := by decide +kernel
theorem dX8_oddsFrom_117 : decode cX8_oddsFrom 117 = .ok (.iload 6, 2) := by decide +kernel
theorem dX8_oddsFrom_119 : decode cX8_oddsFrom 119 = .ok (.aload_n 0, 1) := by decide +kernel
theorem dX8_oddsFrom_120 : decode cX8_oddsFrom 120 = .ok (.iload_n 1, 1) := by decide +kernel
theorem dX8_oddsFrom_121 : decode cX8_oddsFrom 121 = .ok (.iload_n 2, 1) := by decide +kernel
theorem dX8_oddsFrom_122 : decode cX8_oddsFrom 122 = .ok (.iload_n 2, 1) := by decide +kernel
theorem dX8_oddsFrom_123 : decode cX8_oddsFrom 123 = .ok (.iconst 1, 1) := by decide +kernel
theorem dX8_oddsFrom_124 : decode cX8_oddsFrom 124 = .ok (.isub, 1) := by decide +kernel
theorem dX8_oddsFrom_125 : decode cX8_oddsFrom 125 = .ok (.iand, 1) := by decide +kernel
theorem dX8_oddsFrom_126 : decode cX8_oddsFrom 126 = .ok (.iload_n 3, 1) := by decide +kernel
theorem dX8_oddsFrom_127 : decode cX8_oddsFrom 127 = .ok (.iload 4, 2) := by decide +kernel
theorem dX8_oddsFrom_129 : decode cX8_oddsFrom 129 = .ok (.iload 8, 2) := by decide +kernel
theorem dX8_oddsFrom_131 : decode cX8_oddsFrom 131 = .ok (.isub, 1) := by decide +kernel
theorem dX8_oddsFrom_132 : decode cX8_oddsFrom 132 = .ok (.iload 5, 2) := by decide +kernel
theorem dX8_oddsFrom_134 : decode cX8_oddsFrom 134 = .ok (.iconst 1, 1) := by decide +kernel
theorem dX8_oddsFrom_135 : decode cX8_oddsFrom 135 = .ok (.iadd, 1) := by decide +kernel
theorem dX8_oddsFrom_136 : decode cX8_oddsFrom 136 = .ok (.invokevirtual 379, 3) := by decide +kernel
theorem dX8_oddsFrom_139 : decode cX8_oddsFrom 139 = .ok (.iadd, 1) := by decide +kernel
theorem dX8_oddsFrom_140 : decode cX8_oddsFrom 140 = .ok (.istore 6, 2) := by decide +kernel
theorem dX8_oddsFrom_142 : decode cX8_oddsFrom 142 = .ok (.iload 6, 2) := by decide +kernel
theorem dX8_oddsFrom_144 : decode cX8_oddsFrom 144 = .ok (.ireturn, 1) := by decide +kernel
def fM_oddsFrom_40 (u : Nat) (a2 : Int32) (s2 : Int32) : Option ((Int32) ⊕ (Int32)) :=
  (fM_has u a2 s2).bind fun b3 =>
  if b3 = true then
    some (.inr s2)
  else
    some (.inl (s2 + iz 1))
def fM_oddsFrom_84k0 (u : Nat) (a1 : Int32) (a2 : Int32) (a3 : Int32) (a4 : Int32) (a5 : Int32) (rc : mS → Int32 → Int32 → Int32 → Int32 → Int32 → Option (Int32 × mS)) (x5 : Int64) (k9 : mS) : Option (Int32 × mS) :=
  (rc k9 a1 (a2 &&& (a2 - (iz 1))) a3 x5.toInt32 (a5 + (iz 1))).bind fun p10 =>
  (fM_bringBack u p10.2 a5).bind fun g11 =>
  (some (mFs g11 15 (iz 1))).bind fun g12 =>
  (rc g12 a1 (a2 &&& (a2 - (iz 1))) a3 (a4 - x5.toInt32) (a5 + (iz 1))).bind fun p13 =>
  some ((((iz 0) + p10.1) + p13.1), p13.2)
def fM_oddsFrom_b (u : Nat) (rc : mS → Int32 → Int32 → Int32 → Int32 → Int32 → Option (Int32 × mS)) (g : mS) (a1 : Int32) (a2 : Int32) (a3 : Int32) (a4 : Int32) (a5 : Int32) : Option (Int32 × mS) :=
  (fM_putAside u g a5).bind fun g1 =>
  if a2 = iz 0 then
    (fM_sureParts u g1 a1).bind fun p14 =>
    (fM_bringBack u p14.2 a5).bind fun g15 =>
    (some (mFs g15 15 (iz 1))).bind fun g16 =>
    some ((p14.1 * a4), g16)
  else
    (nx_iter u (fM_oddsFrom_40 u a2) (iz 0)).bind fun e4 =>
    (nx_dvl (a4.toInt64 * a3.toInt64) (100 : Int64)).bind fun x5 =>
    (fM_isOn u g1 e4).bind fun b6 =>
    (if b6 = true then
       (fM_fall u g1 e4).bind fun p7 =>
       some p7.2
     else
       some g1 : Option (mS)).bind fun s8 =>
    fM_oddsFrom_84k0 u a1 a2 a3 a4 a5 rc x5 s8
set_option maxRecDepth 4000 in
theorem jM_oddsFrom_40 {Γ : nx_G} {M0 : nx_M} {m : Nat} (u : Nat) (a1 : Int32) (a2 : Int32) (a3 : Int32) (a4 : Int32) (a5 : Int32) (g1 : mS)  (dd : Nat) (hd0 : 11 ≤ dd) (rc : mS → Int32 → Int32 → Int32 → Int32 → Int32 → Option (Int32 × mS)) (dr : Nat) (hdr : dr + 1 ≤ dd) (hrc : ∀ (l : Launch) {g : mS} {a1 : Int32} {a2 : Int32} {a3 : Int32} {a4 : Int32} {a5 : Int32} {r : Int32 × mS}, rc g a1 a2 a3 a4 a5 = some r → nx_Ct l Γ dr yX8_oddsFrom cX8_oddsFrom 9 (some .int) [.ref m, .int a1, .int a2, .int a3, .int a4, .int a5] (mW Γ M0 m g) (some (.int r.1), (mW Γ M0 m r.2))) (X : nx_X) (Z : nx_Z) (s2 : Int32) : nx_J Γ X (RX8, cX8_oddsFrom, 9, (some .int), "oddsFrom", dd) Z (Sum.elim (fun s2 : Int32 => .inl (40, [some (.ref m), some (.int a1), some (.int a2), some (.int a3), some (.int a4), some (.int a5), some (.int (iz 0)), some (.int s2), none], [], (mW Γ M0 m g1))) (fun e4 : Int32 => .inl (55, [some (.ref m), some (.int a1), some (.int a2), some (.int a3), some (.int a4), some (.int a5), some (.int (iz 0)), some (.int e4), none], [], (mW Γ M0 m g1)))) (.inl (40, [some (.ref m), some (.int a1), some (.int a2), some (.int a3), some (.int a4), some (.int a5), some (.int (iz 0)), some (.int s2), none], [], (mW Γ M0 m g1))) (fM_oddsFrom_40 u a2 s2) := by
  unfold fM_oddsFrom_40
  refine nx_iload_n rfl dX8_oddsFrom_40 rfl ?_
  refine nx_iload rfl dX8_oddsFrom_41 rfl ?_
  refine nx_callSr [.int a2, .int s2] (fun r => .int (bz r)) (fun _ => (mW Γ M0 m g1)) cw_8_92 wd_1272 (fun r e => cM_has X.2.1  e) rfl rfl (Nat.le_of_ble_eq_true rfl) (Nat.le_trans (Nat.le_of_ble_eq_true rfl : 2 ≤ 11) hd0) dX8_oddsFrom_43 rfl (fun b3 => ?_)
  refine nx_ifz_ne (t := 55) dX8_oddsFrom_46 (by decide) rfl ?_ ?_
  · exact nx_leaf rfl
  · refine nx_iinc [some (.ref m), some (.int a1), some (.int a2), some (.int a3), some (.int a4), some (.int a5), some (.int (iz 0)), some (.int (s2 + iz 1)), none] dX8_oddsFrom_49 rfl rfl (Nat.le_of_ble_eq_true rfl) rfl rfl ?_
    refine nx_goto (q := 40) dX8_oddsFrom_52 (by decide) ?_
    exact nx_leaf rfl
set_option maxRecDepth 4000 in
theorem jM_oddsFrom_84k0 {Γ : nx_G} {M0 : nx_M} {m : Nat} (u : Nat) (a1 : Int32) (a2 : Int32) (a3 : Int32) (a4 : Int32) (a5 : Int32) (e4 : Int32) (x5 : Int64) (k9 : mS)  (dd : Nat) (hd0 : 11 ≤ dd) (rc : mS → Int32 → Int32 → Int32 → Int32 → Int32 → Option (Int32 × mS)) (dr : Nat) (hdr : dr + 1 ≤ dd) (hrc : ∀ (l : Launch) {g : mS} {a1 : Int32} {a2 : Int32} {a3 : Int32} {a4 : Int32} {a5 : Int32} {r : Int32 × mS}, rc g a1 a2 a3 a4 a5 = some r → nx_Ct l Γ dr yX8_oddsFrom cX8_oddsFrom 9 (some .int) [.ref m, .int a1, .int a2, .int a3, .int a4, .int a5] (mW Γ M0 m g) (some (.int r.1), (mW Γ M0 m r.2))) (X : nx_X) (Z : nx_Z) : nx_J Γ X (RX8, cX8_oddsFrom, 9, (some .int), "oddsFrom", dd) Z (fun r0 : Int32 × mS => .inr (some (.int r0.1), (mW Γ M0 m r0.2))) (.inl (84, [some (.ref m), some (.int a1), some (.int a2), some (.int a3), some (.int a4), some (.int a5), some (.int (iz 0)), some (.int e4), some (.int x5.toInt32)], [], (mW Γ M0 m k9))) (fM_oddsFrom_84k0 u a1 a2 a3 a4 a5 rc x5 k9) := by
  unfold fM_oddsFrom_84k0
  refine nx_iload rfl dX8_oddsFrom_84 rfl ?_
  refine nx_aload_n rfl dX8_oddsFrom_86 rfl ?_
  refine nx_iload_n rfl dX8_oddsFrom_87 rfl ?_
  refine nx_iload_n rfl dX8_oddsFrom_88 rfl ?_
  refine nx_iload_n rfl dX8_oddsFrom_89 rfl ?_
  refine nx_iconst dX8_oddsFrom_90 rfl ?_
  refine nx_isub dX8_oddsFrom_91 rfl ?_
  refine nx_iand dX8_oddsFrom_92 rfl ?_
  refine nx_iload_n rfl dX8_oddsFrom_93 rfl ?_
  refine nx_iload rfl dX8_oddsFrom_94 rfl ?_
  refine nx_iload rfl dX8_oddsFrom_96 rfl ?_
  refine nx_iconst dX8_oddsFrom_98 rfl ?_
  refine nx_iadd dX8_oddsFrom_99 rfl ?_
  refine nx_callVr [.int a1, .int (a2 &&& (a2 - (iz 1))), .int a3, .int x5.toInt32, .int (a5 + (iz 1))] (fun r => .int r.1) (fun r => (mW Γ M0 m r.2)) cw_8_379 cv_X8_oddsFrom (fun r e => hrc X.2.1  e) mW_m rfl rfl (Nat.le_of_ble_eq_true rfl) hdr dX8_oddsFrom_100 rfl (fun p10 => ?_)
  refine nx_iadd dX8_oddsFrom_103 rfl ?_
  refine nx_istore [some (.ref m), some (.int a1), some (.int a2), some (.int a3), some (.int a4), some (.int a5), some (.int ((iz 0) + p10.1)), some (.int e4), some (.int x5.toInt32)] dX8_oddsFrom_104 rfl (Nat.le_of_ble_eq_true rfl) rfl rfl ?_
  refine nx_aload_n rfl dX8_oddsFrom_106 rfl ?_
  refine nx_iload rfl dX8_oddsFrom_107 rfl ?_
  refine nx_callVv [.int a5] (fun r => (mW Γ M0 m r)) cw_8_352 cv_X8_bringBack (fun r e => cM_bringBack X.2.1  e) mW_m rfl rfl (Nat.le_of_ble_eq_true rfl) (Nat.le_trans (Nat.le_of_ble_eq_true rfl : 2 ≤ 11) hd0) dX8_oddsFrom_109 rfl (fun g11 => ?_)
  refine nx_aload_n rfl dX8_oddsFrom_112 rfl ?_
  refine nx_iconst dX8_oddsFrom_113 rfl ?_
  refine m_put fl_8_168 ft_8_15 (by decide +kernel) (by decide +kernel) (Nat.le_of_ble_eq_true rfl) rfl dX8_oddsFrom_114 rfl (fun g12 => ?_)
  refine nx_iload rfl dX8_oddsFrom_117 rfl ?_
  refine nx_aload_n rfl dX8_oddsFrom_119 rfl ?_
  refine nx_iload_n rfl dX8_oddsFrom_120 rfl ?_
  refine nx_iload_n rfl dX8_oddsFrom_121 rfl ?_
  refine nx_iload_n rfl dX8_oddsFrom_122 rfl ?_
  refine nx_iconst dX8_oddsFrom_123 rfl ?_
  refine nx_isub dX8_oddsFrom_124 rfl ?_
  refine nx_iand dX8_oddsFrom_125 rfl ?_
  refine nx_iload_n rfl dX8_oddsFrom_126 rfl ?_
  refine nx_iload rfl dX8_oddsFrom_127 rfl ?_
  refine nx_iload rfl dX8_oddsFrom_129 rfl ?_
  refine nx_isub dX8_oddsFrom_131 rfl ?_
  refine nx_iload rfl dX8_oddsFrom_132 rfl ?_
  refine nx_iconst dX8_oddsFrom_134 rfl ?_
  refine nx_iadd dX8_oddsFrom_135 rfl ?_
  refine nx_callVr [.int a1, .int (a2 &&& (a2 - (iz 1))), .int a3, .int (a4 - x5.toInt32), .int (a5 + (iz 1))] (fun r => .int r.1) (fun r => (mW Γ M0 m r.2)) cw_8_379 cv_X8_oddsFrom (fun r e => hrc X.2.1  e) mW_m rfl rfl (Nat.le_of_ble_eq_true rfl) hdr dX8_oddsFrom_136 rfl (fun p13 => ?_)
  refine nx_iadd dX8_oddsFrom_139 rfl ?_
  refine nx_istore [some (.ref m), some (.int a1), some (.int a2), some (.int a3), some (.int a4), some (.int a5), some (.int (((iz 0) + p10.1) + p13.1)), some (.int e4), some (.int x5.toInt32)] dX8_oddsFrom_140 rfl (Nat.le_of_ble_eq_true rfl) rfl rfl ?_
  refine nx_iload rfl dX8_oddsFrom_142 rfl ?_
  exact nx_iret dX8_oddsFrom_144 rfl rfl
set_option maxRecDepth 4000 in
theorem jM_oddsFrom {Γ : nx_G} {M0 : nx_M} {m : Nat} (u : Nat) (g : mS) (a1 : Int32) (a2 : Int32) (a3 : Int32) (a4 : Int32) (a5 : Int32)  (dd : Nat) (hd0 : 11 ≤ dd) (rc : mS → Int32 → Int32 → Int32 → Int32 → Int32 → Option (Int32 × mS)) (dr : Nat) (hdr : dr + 1 ≤ dd) (hrc : ∀ (l : Launch) {g : mS} {a1 : Int32} {a2 : Int32} {a3 : Int32} {a4 : Int32} {a5 : Int32} {r : Int32 × mS}, rc g a1 a2 a3 a4 a5 = some r → nx_Ct l Γ dr yX8_oddsFrom cX8_oddsFrom 9 (some .int) [.ref m, .int a1, .int a2, .int a3, .int a4, .int a5] (mW Γ M0 m g) (some (.int r.1), (mW Γ M0 m r.2))) (X : nx_X) (Z : nx_Z) : nx_J Γ X (RX8, cX8_oddsFrom, 9, (some .int), "oddsFrom", dd) Z (fun r0 : Int32 × mS => .inr (some (.int r0.1), (mW Γ M0 m r0.2))) (.inl (0, [some (.ref m), some (.int a1), some (.int a2), some (.int a3), some (.int a4), some (.int a5), none, none, none], [], (mW Γ M0 m g))) (fM_oddsFrom_b u rc g a1 a2 a3 a4 a5) := by
  unfold fM_oddsFrom_b
  refine nx_aload_n rfl dX8_oddsFrom_0 rfl ?_
  refine nx_iload rfl dX8_oddsFrom_1 rfl ?_
  refine nx_callVv [.int a5] (fun r => (mW Γ M0 m r)) cw_8_349 cv_X8_putAside (fun r e => cM_putAside X.2.1  e) mW_m rfl rfl (Nat.le_of_ble_eq_true rfl) (Nat.le_trans (Nat.le_of_ble_eq_true rfl : 2 ≤ 11) hd0) dX8_oddsFrom_3 rfl (fun g1 => ?_)
  refine nx_iconst dX8_oddsFrom_6 rfl ?_
  refine nx_istore [some (.ref m), some (.int a1), some (.int a2), some (.int a3), some (.int a4), some (.int a5), some (.int (iz 0)), none, none] dX8_oddsFrom_7 rfl (Nat.le_of_ble_eq_true rfl) rfl rfl ?_
  refine nx_iload_n rfl dX8_oddsFrom_9 rfl ?_
  refine nx_if_ne (t := 37) dX8_oddsFrom_10 (by decide) rfl ?_ ?_
  · refine nx_iconst dX8_oddsFrom_37 rfl ?_
    refine nx_istore [some (.ref m), some (.int a1), some (.int a2), some (.int a3), some (.int a4), some (.int a5), some (.int (iz 0)), some (.int (iz 0)), none] dX8_oddsFrom_38 rfl (Nat.le_of_ble_eq_true rfl) rfl rfl ?_
    refine nx_seq (C1 := fun e4 : Int32 => .inl (55, [some (.ref m), some (.int a1), some (.int a2), some (.int a3), some (.int a4), some (.int a5), some (.int (iz 0)), some (.int e4), none], [], (mW Γ M0 m g1))) (nx_loop (C1 := fun s2 : Int32 => .inl (40, [some (.ref m), some (.int a1), some (.int a2), some (.int a3), some (.int a4), some (.int a5), some (.int (iz 0)), some (.int s2), none], [], (mW Γ M0 m g1))) (fun s2 => jM_oddsFrom_40  u a1 a2 a3 a4 a5 g1 dd hd0 rc dr hdr hrc X Z s2) (iz 0)) (fun e4 => ?_)
    refine nx_iload rfl dX8_oddsFrom_55 rfl ?_
    refine nx_i2l dX8_oddsFrom_57 rfl ?_
    refine nx_iload_n rfl dX8_oddsFrom_58 rfl ?_
    refine nx_i2l dX8_oddsFrom_59 rfl ?_
    refine nx_lmul dX8_oddsFrom_60 rfl ?_
    refine nx_ldc2 wd_1695 dX8_oddsFrom_61 rfl ?_
    refine nx_ldiv dX8_oddsFrom_64 rfl (fun x5 => ?_)
    refine nx_l2i dX8_oddsFrom_65 rfl ?_
    refine nx_istore [some (.ref m), some (.int a1), some (.int a2), some (.int a3), some (.int a4), some (.int a5), some (.int (iz 0)), some (.int e4), some (.int x5.toInt32)] dX8_oddsFrom_66 rfl (Nat.le_of_ble_eq_true rfl) rfl rfl ?_
    refine nx_aload_n rfl dX8_oddsFrom_68 rfl ?_
    refine nx_iload rfl dX8_oddsFrom_69 rfl ?_
    refine nx_callVr [.int e4] (fun r => .int (bz r)) (fun _ => (mW Γ M0 m g1)) cw_8_180 cv_X8_isOn (fun r e => cM_isOn X.2.1  e) mW_m rfl rfl (Nat.le_of_ble_eq_true rfl) (Nat.le_trans (Nat.le_of_ble_eq_true rfl : 4 ≤ 11) hd0) dX8_oddsFrom_71 rfl (fun b6 => ?_)
    refine nx_seq (C1 := fun s8 : mS => .inl (84, [some (.ref m), some (.int a1), some (.int a2), some (.int a3), some (.int a4), some (.int a5), some (.int (iz 0)), some (.int e4), some (.int x5.toInt32)], [], (mW Γ M0 m s8))) ?_ (fun s8 => ?_)
    · refine nx_ifz_eq (t := 84) dX8_oddsFrom_74 (by decide) rfl ?_ ?_
      · exact nx_leaf rfl
      · refine nx_aload_n rfl dX8_oddsFrom_77 rfl ?_
        refine nx_iload rfl dX8_oddsFrom_78 rfl ?_
        refine nx_callVr [.int e4] (fun r => .int r.1) (fun r => (mW Γ M0 m r.2)) cw_8_223 cv_X8_fall (fun r e => cM_fall X.2.1  e) mW_m rfl rfl (Nat.le_of_ble_eq_true rfl) (Nat.le_trans (Nat.le_of_ble_eq_true rfl : 6 ≤ 11) hd0) dX8_oddsFrom_80 rfl (fun p7 => ?_)
        refine nx_pop rfl dX8_oddsFrom_83 rfl ?_
        obtain ⟨_, _⟩ := p7
        exact nx_leaf rfl
    exact jM_oddsFrom_84k0  u a1 a2 a3 a4 a5 e4 x5 s8 dd hd0 rc dr hdr hrc X Z
  · refine nx_aload_n rfl dX8_oddsFrom_13 rfl ?_
    refine nx_iload_n rfl dX8_oddsFrom_14 rfl ?_
    refine nx_callVr [.int a1] (fun r => .int r.1) (fun r => (mW Γ M0 m r.2)) cw_8_374 cv_X8_sureParts (fun r e => cM_sureParts X.2.1  e) mW_m rfl rfl (Nat.le_of_ble_eq_true rfl) (Nat.le_trans (Nat.le_of_ble_eq_true rfl : 11 ≤ 11) hd0) dX8_oddsFrom_15 rfl (fun p14 => ?_)
    refine nx_iload rfl dX8_oddsFrom_18 rfl ?_
    refine nx_imul dX8_oddsFrom_20 rfl ?_
    refine nx_istore [some (.ref m), some (.int a1), some (.int a2), some (.int a3), some (.int a4), some (.int a5), some (.int (p14.1 * a4)), none, none] dX8_oddsFrom_21 rfl (Nat.le_of_ble_eq_true rfl) rfl rfl ?_
    refine nx_aload_n rfl dX8_oddsFrom_23 rfl ?_
    refine nx_iload rfl dX8_oddsFrom_24 rfl ?_
    refine nx_callVv [.int a5] (fun r => (mW Γ M0 m r)) cw_8_352 cv_X8_bringBack (fun r e => cM_bringBack X.2.1  e) mW_m rfl rfl (Nat.le_of_ble_eq_true rfl) (Nat.le_trans (Nat.le_of_ble_eq_true rfl : 2 ≤ 11) hd0) dX8_oddsFrom_26 rfl (fun g15 => ?_)
    refine nx_aload_n rfl dX8_oddsFrom_29 rfl ?_
    refine nx_iconst dX8_oddsFrom_30 rfl ?_
    refine m_put fl_8_168 ft_8_15 (by decide +kernel) (by decide +kernel) (Nat.le_of_ble_eq_true rfl) rfl dX8_oddsFrom_31 rfl (fun g16 => ?_)
    refine nx_iload rfl dX8_oddsFrom_34 rfl ?_
    exact nx_iret dX8_oddsFrom_36 rfl rfl
def fM_oddsFrom : Nat → Nat → mS → Int32 → Int32 → Int32 → Int32 → Int32 → Option (Int32 × mS)
  | 0, _, _, _, _, _, _, _ => none
  | n + 1, u, g, a1, a2, a3, a4, a5 => fM_oddsFrom_b u (fM_oddsFrom n u) g a1 a2 a3 a4 a5
theorem cM_oddsFrom (n : Nat) (l : Launch) {Γ : nx_G} {M0 : nx_M} {m : Nat} {u : Nat} {g : mS} {a1 : Int32} {a2 : Int32} {a3 : Int32} {a4 : Int32} {a5 : Int32} {r : Int32 × mS} (h : fM_oddsFrom n u g a1 a2 a3 a4 a5 = some r) : nx_Ct l Γ (11 + n) yX8_oddsFrom cX8_oddsFrom 9 (some .int) [.ref m, .int a1, .int a2, .int a3, .int a4, .int a5] (mW Γ M0 m g) (some (.int r.1), (mW Γ M0 m r.2)) := by
  induction n generalizing l g a1 a2 a3 a4 a5 r with
  | zero => cases h
  | succ n ih => exact nx_ct (out := fun r0 : Int32 × mS => (some (.int r0.1), (mW Γ M0 m r0.2))) [some (.ref m), some (.int a1), some (.int a2), some (.int a3), some (.int a4), some (.int a5), none, none, none] pn_RX8 h (Nat.le_of_ble_eq_true rfl) rfl (fun X Z _ => jM_oddsFrom  u g a1 a2 a3 a4 a5 (11 + (n + 1)) (Nat.le_add_right _ _) (fM_oddsFrom n u) (11 + n) (Nat.le_refl _) (fun l _ _ _ _ _ _ _ e => ih l e) X Z)
theorem dX8_odds_0 : decode cX8_odds 0 = .ok (.aload_n 0, 1) := by decide +kernel
theorem dX8_odds_1 : decode cX8_odds 1 = .ok (.iload_n 1, 1) := by decide +kernel
theorem dX8_odds_2 : decode cX8_odds 2 = .ok (.invokevirtual 162, 3) := by decide +kernel
theorem dX8_odds_5 : decode cX8_odds 5 = .ok (.ifCond .eq 13, 3) := by decide +kernel
theorem dX8_odds_8 : decode cX8_odds 8 = .ok (.iload_n 2, 1) := by decide +kernel
theorem dX8_odds_9 : decode cX8_odds 9 = .ok (.iconst 0, 1) := by decide +kernel
theorem dX8_odds_10 : decode cX8_odds 10 = .ok (.bipush 100, 2) := by decide +kernel
theorem dX8_odds_12 : decode cX8_odds 12 = .ok (.invokestatic 61, 3) := by decide +kernel
theorem dX8_odds_15 : decode cX8_odds 15 = .ok (.ifCond .ne 5, 3) := by decide +kernel
theorem dX8_odds_18 : decode cX8_odds 18 = .ok (.iconst (-1), 1) := by decide +kernel
theorem dX8_odds_19 : decode cX8_odds 19 = .ok (.ireturn, 1) := by decide +kernel
theorem dX8_odds_20 : decode cX8_odds 20 = .ok (.aload_n 0, 1) := by decide +kernel
theorem dX8_odds_21 : decode cX8_odds 21 = .ok (.iload_n 1, 1) := by decide +kernel
theorem dX8_odds_22 : decode cX8_odds 22 = .ok (.invokevirtual 229, 3) := by decide +kernel
theorem dX8_odds_25 : decode cX8_odds 25 = .ok (.ifCond .ne 5, 3) := by decide +kernel
theorem dX8_odds_28 : decode cX8_odds 28 = .ok (.iconst 0, 1) := by decide +kernel
theorem dX8_odds_29 : decode cX8_odds 29 = .ok (.ireturn, 1) := by decide +kernel
theorem dX8_odds_30 : decode cX8_odds 30 = .ok (.aload_n 0, 1) := by decide +kernel
theorem dX8_odds_31 : decode cX8_odds 31 = .ok (.iload_n 1, 1) := by decide +kernel
theorem dX8_odds_32 : decode cX8_odds 32 = .ok (.aload_n 0, 1) := by decide +kernel
theorem dX8_odds_33 : decode cX8_odds 33 = .ok (.iconst 1, 1) := by decide +kernel
theorem dX8_odds_34 : decode cX8_odds 34 = .ok (.invokevirtual 211, 3) := by decide +kernel
theorem dX8_odds_37 : decode cX8_odds 37 = .ok (.aload_n 0, 1) := by decide +kernel
theorem dX8_odds_38 : decode cX8_odds 38 = .ok (.iconst 2, 1) := by decide +kernel
theorem dX8_odds_39 : decode cX8_odds 39 = .ok (.invokevirtual 211, 3) := by decide +kernel
theorem dX8_odds_42 : decode cX8_odds 42 = .ok (.ior, 1) := by decide +kernel
theorem dX8_odds_43 : decode cX8_odds 43 = .ok (.iload_n 2, 1) := by decide +kernel
theorem dX8_odds_44 : decode cX8_odds 44 = .ok (.ldc_w 383, 3) := by decide +kernel
theorem dX8_odds_47 : decode cX8_odds 47 = .ok (.iconst 0, 1) := by decide +kernel
theorem dX8_odds_48 : decode cX8_odds 48 = .ok (.invokevirtual 379, 3) := by decide +kernel
theorem dX8_odds_51 : decode cX8_odds 51 = .ok (.istore_n 3, 1) := by decide +kernel
theorem dX8_odds_52 : decode cX8_odds 52 = .ok (.aload_n 0, 1) := by decide +kernel
theorem dX8_odds_53 : decode cX8_odds 53 = .ok (.iconst 0, 1) := by decide +kernel
theorem dX8_odds_54 : decode cX8_odds 54 = .ok (.putfield 168, 3) := by decide +kernel
theorem dX8_odds_57 : decode cX8_odds 57 = .ok (.iload_n 3, 1) := by decide +kernel
theorem dX8_odds_58 : decode cX8_odds 58 = .ok (.ireturn, 1) := by decide +kernel
def fM_odds (u : Nat) (g : mS) (a1 : Int32) (a2 : Int32) : Option (Int32 × mS) :=
  (fM_isSeat u g a1).bind fun b1 =>
  if b1 = true then
    (fM_in u a2 (iz 0) (iz 100)).bind fun b2 =>
    if b2 = true then
      (fM_isThere u g a1).bind fun b3 =>
      if b3 = true then
        (fM_those u g (iz 1)).bind fun x4 =>
        (fM_those u g (iz 2)).bind fun x5 =>
        (fM_oddsFrom 20 u g a1 (x4 ||| x5) a2 (1000000000 : Int32) (iz 0)).bind fun p6 =>
        (some (mFs p6.2 15 (iz 0))).bind fun g7 =>
        some (p6.1, g7)
      else
        some ((iz 0), g)
    else
      some ((iz (-1)), g)
  else
    some ((iz (-1)), g)
set_option maxRecDepth 4000 in
theorem jM_odds {Γ : nx_G} {M0 : nx_M} {m : Nat} (u : Nat) (g : mS) (a1 : Int32) (a2 : Int32)   (X : nx_X) (Z : nx_Z) : nx_J Γ X (RX8, cX8_odds, 4, (some .int), "odds", 32) Z (fun r0 : Int32 × mS => .inr (some (.int r0.1), (mW Γ M0 m r0.2))) (.inl (0, [some (.ref m), some (.int a1), some (.int a2), none], [], (mW Γ M0 m g))) (fM_odds u g a1 a2) := by
  unfold fM_odds
  refine nx_aload_n rfl dX8_odds_0 rfl ?_
  refine nx_iload_n rfl dX8_odds_1 rfl ?_
  refine nx_callVr [.int a1] (fun r => .int (bz r)) (fun _ => (mW Γ M0 m g)) cw_8_162 cv_X8_isSeat (fun r e => cM_isSeat X.2.1  e) mW_m rfl rfl (Nat.le_of_ble_eq_true rfl) (Nat.le_of_ble_eq_true rfl) dX8_odds_2 rfl (fun b1 => ?_)
  refine nx_ifz_eq (t := 18) dX8_odds_5 (by decide) rfl ?_ ?_
  · refine nx_iconst dX8_odds_18 rfl ?_
    exact nx_iret dX8_odds_19 rfl rfl
  · refine nx_iload_n rfl dX8_odds_8 rfl ?_
    refine nx_iconst dX8_odds_9 rfl ?_
    refine nx_bipush (by decide +kernel) dX8_odds_10 rfl ?_
    refine nx_callSr [.int a2, .int (iz 0), .int (iz 100)] (fun r => .int (bz r)) (fun _ => (mW Γ M0 m g)) cw_8_61 wd_1243 (fun r e => cM_in X.2.1  e) rfl rfl (Nat.le_of_ble_eq_true rfl) (Nat.le_of_ble_eq_true rfl) dX8_odds_12 rfl (fun b2 => ?_)
    refine nx_ifz_ne (t := 20) dX8_odds_15 (by decide) rfl ?_ ?_
    · refine nx_aload_n rfl dX8_odds_20 rfl ?_
      refine nx_iload_n rfl dX8_odds_21 rfl ?_
      refine nx_callVr [.int a1] (fun r => .int (bz r)) (fun _ => (mW Γ M0 m g)) cw_8_229 cv_X8_isThere (fun r e => cM_isThere X.2.1  e) mW_m rfl rfl (Nat.le_of_ble_eq_true rfl) (Nat.le_of_ble_eq_true rfl) dX8_odds_22 rfl (fun b3 => ?_)
      refine nx_ifz_ne (t := 30) dX8_odds_25 (by decide) rfl ?_ ?_
      · refine nx_aload_n rfl dX8_odds_30 rfl ?_
        refine nx_iload_n rfl dX8_odds_31 rfl ?_
        refine nx_aload_n rfl dX8_odds_32 rfl ?_
        refine nx_iconst dX8_odds_33 rfl ?_
        refine nx_callVr [.int (iz 1)] (fun r => .int r) (fun _ => (mW Γ M0 m g)) cw_8_211 cv_X8_those (fun r e => cM_those X.2.1  e) mW_m rfl rfl (Nat.le_of_ble_eq_true rfl) (Nat.le_of_ble_eq_true rfl) dX8_odds_34 rfl (fun x4 => ?_)
        refine nx_aload_n rfl dX8_odds_37 rfl ?_
        refine nx_iconst dX8_odds_38 rfl ?_
        refine nx_callVr [.int (iz 2)] (fun r => .int r) (fun _ => (mW Γ M0 m g)) cw_8_211 cv_X8_those (fun r e => cM_those X.2.1  e) mW_m rfl rfl (Nat.le_of_ble_eq_true rfl) (Nat.le_of_ble_eq_true rfl) dX8_odds_39 rfl (fun x5 => ?_)
        refine nx_ior dX8_odds_42 rfl ?_
        refine nx_iload_n rfl dX8_odds_43 rfl ?_
        refine nx_ldcw wd_1686 dX8_odds_44 rfl ?_
        refine nx_iconst dX8_odds_47 rfl ?_
        refine nx_callVr [.int a1, .int (x4 ||| x5), .int a2, .int (1000000000 : Int32), .int (iz 0)] (fun r => .int r.1) (fun r => (mW Γ M0 m r.2)) cw_8_379 cv_X8_oddsFrom (fun r e => cM_oddsFrom 20 X.2.1  e) mW_m rfl rfl (Nat.le_of_ble_eq_true rfl) (Nat.le_of_ble_eq_true rfl) dX8_odds_48 rfl (fun p6 => ?_)
        refine nx_istore_n [some (.ref m), some (.int a1), some (.int a2), some (.int p6.1)] dX8_odds_51 rfl (Nat.le_of_ble_eq_true rfl) rfl rfl ?_
        refine nx_aload_n rfl dX8_odds_52 rfl ?_
        refine nx_iconst dX8_odds_53 rfl ?_
        refine m_put fl_8_168 ft_8_15 (by decide +kernel) (by decide +kernel) (Nat.le_of_ble_eq_true rfl) rfl dX8_odds_54 rfl (fun g7 => ?_)
        refine nx_iload_n rfl dX8_odds_57 rfl ?_
        exact nx_iret dX8_odds_58 rfl rfl
      · refine nx_iconst dX8_odds_28 rfl ?_
        exact nx_iret dX8_odds_29 rfl rfl
    · refine nx_iconst dX8_odds_18 rfl ?_
      exact nx_iret dX8_odds_19 rfl rfl
theorem cM_odds (l : Launch) {Γ : nx_G} {M0 : nx_M} {m : Nat} {u : Nat} {g : mS} {a1 : Int32} {a2 : Int32} {r : Int32 × mS}  (h : fM_odds u g a1 a2 = some r) : nx_Ct l Γ 32 yX8_odds cX8_odds 4 (some .int) [.ref m, .int a1, .int a2] (mW Γ M0 m g) (some (.int r.1), (mW Γ M0 m r.2)) :=
  nx_ct (out := fun r0 : Int32 × mS => (some (.int r0.1), (mW Γ M0 m r0.2))) [some (.ref m), some (.int a1), some (.int a2), none] pn_RX8 h (Nat.le_of_ble_eq_true rfl) rfl (fun X Z _ => jM_odds  u g a1 a2 X Z)
theorem dX0_mixFrom_0 : decode cX0_mixFrom 0 = .ok (.iload_n 3, 1) := by decide +kernel
theorem dX0_mixFrom_1 : decode cX0_mixFrom 1 = .ok (.iload 4, 2) := by decide +kernel
theorem dX0_mixFrom_3 : decode cX0_mixFrom 3 = .ok (.iadd, 1) := by decide +kernel
theorem dX0_mixFrom_4 : decode cX0_mixFrom 4 = .ok (.istore 6, 2) := by decide +kernel
theorem dX0_mixFrom_6 : decode cX0_mixFrom 6 = .ok (.iload_n 3, 1) := by decide +kernel
theorem dX0_mixFrom_7 : decode cX0_mixFrom 7 = .ok (.aload_n 1, 1) := by decide +kernel
theorem dX0_mixFrom_8 : decode cX0_mixFrom 8 = .ok (.getfield 60, 3) := by decide +kernel
theorem dX0_mixFrom_11 : decode cX0_mixFrom 11 = .ok (.if_icmp .lt 49, 3) := by decide +kernel
theorem dX0_mixFrom_14 : decode cX0_mixFrom 14 = .ok (.iload 4, 2) := by decide +kernel
theorem dX0_mixFrom_16 : decode cX0_mixFrom 16 = .ok (.aload_n 2, 1) := by decide +kernel
theorem dX0_mixFrom_17 : decode cX0_mixFrom 17 = .ok (.getfield 60, 3) := by decide +kernel
theorem dX0_mixFrom_20 : decode cX0_mixFrom 20 = .ok (.if_icmp .lt 40, 3) := by decide +kernel
theorem dX0_mixFrom_23 : decode cX0_mixFrom 23 = .ok (.aload_n 0, 1) := by decide +kernel
theorem dX0_mixFrom_24 : decode cX0_mixFrom 24 = .ok (.dup, 1) := by decide +kernel
theorem dX0_mixFrom_25 : decode cX0_mixFrom 25 = .ok (.getfield 76, 3) := by decide +kernel
theorem dX0_mixFrom_28 : decode cX0_mixFrom 28 = .ok (.iconst 1, 1) := by decide +kernel
theorem dX0_mixFrom_29 : decode cX0_mixFrom 29 = .ok (.iadd, 1) := by decide +kernel
theorem dX0_mixFrom_30 : decode cX0_mixFrom 30 = .ok (.putfield 76, 3) := by decide +kernel
theorem dX0_mixFrom_33 : decode cX0_mixFrom 33 = .ok (.aload_n 0, 1) := by decide +kernel
theorem dX0_mixFrom_34 : decode cX0_mixFrom 34 = .ok (.aload_n 0, 1) := by decide +kernel
theorem dX0_mixFrom_35 : decode cX0_mixFrom 35 = .ok (.getfield 79, 3) := by decide +kernel
theorem dX0_mixFrom_38 : decode cX0_mixFrom 38 = .ok (.iconst (-1), 1) := by decide +kernel
theorem dX0_mixFrom_39 : decode cX0_mixFrom 39 = .ok (.if_icmp .ne 8, 3) := by decide +kernel
theorem dX0_mixFrom_42 : decode cX0_mixFrom 42 = .ok (.iload 5, 2) := by decide +kernel
theorem dX0_mixFrom_44 : decode cX0_mixFrom 44 = .ok (.goto 12, 3) := by decide +kernel
theorem dX0_mixFrom_47 : decode cX0_mixFrom 47 = .ok (.aload_n 0, 1) := by decide +kernel
theorem dX0_mixFrom_48 : decode cX0_mixFrom 48 = .ok (.getfield 79, 3) := by decide +kernel
theorem dX0_mixFrom_51 : decode cX0_mixFrom 51 = .ok (.iload 5, 2) := by decide +kernel
theorem dX0_mixFrom_53 : decode cX0_mixFrom 53 = .ok (.invokestatic 17, 3) := by decide +kernel
theorem dX0_mixFrom_56 : decode cX0_mixFrom 56 = .ok (.putfield 79, 3) := by decide +kernel
theorem dX0_mixFrom_59 : decode cX0_mixFrom 59 = .ok (.return_, 1) := by decide +kernel
theorem dX0_mixFrom_60 : decode cX0_mixFrom 60 = .ok (.iload 6, 2) := by decide +kernel
theorem dX0_mixFrom_62 : decode cX0_mixFrom 62 = .ok (.bipush 12, 2) := by decide +kernel
theorem dX0_mixFrom_64 : decode cX0_mixFrom 64 = .ok (.if_icmp .lt 4, 3) := by decide +kernel
theorem dX0_mixFrom_67 : decode cX0_mixFrom 67 = .ok (.return_, 1) := by decide +kernel
theorem dX0_mixFrom_68 : decode cX0_mixFrom 68 = .ok (.aload_n 0, 1) := by decide +kernel
theorem dX0_mixFrom_69 : decode cX0_mixFrom 69 = .ok (.iload 6, 2) := by decide +kernel
theorem dX0_mixFrom_71 : decode cX0_mixFrom 71 = .ok (.invokevirtual 27, 3) := by decide +kernel
theorem dX0_mixFrom_74 : decode cX0_mixFrom 74 = .ok (.astore 7, 2) := by decide +kernel
theorem dX0_mixFrom_76 : decode cX0_mixFrom 76 = .ok (.aload_n 0, 1) := by decide +kernel
theorem dX0_mixFrom_77 : decode cX0_mixFrom 77 = .ok (.iload 6, 2) := by decide +kernel
theorem dX0_mixFrom_79 : decode cX0_mixFrom 79 = .ok (.iconst 1, 1) := by decide +kernel
theorem dX0_mixFrom_80 : decode cX0_mixFrom 80 = .ok (.iadd, 1) := by decide +kernel
theorem dX0_mixFrom_81 : decode cX0_mixFrom 81 = .ok (.invokevirtual 27, 3) := by decide +kernel
theorem dX0_mixFrom_84 : decode cX0_mixFrom 84 = .ok (.astore 8, 2) := by decide +kernel
theorem dX0_mixFrom_86 : decode cX0_mixFrom 86 = .ok (.iload_n 3, 1) := by decide +kernel
theorem dX0_mixFrom_87 : decode cX0_mixFrom 87 = .ok (.aload_n 1, 1) := by decide +kernel
theorem dX0_mixFrom_88 : decode cX0_mixFrom 88 = .ok (.getfield 60, 3) := by decide +kernel
theorem dX0_mixFrom_91 : decode cX0_mixFrom 91 = .ok (.if_icmp .ge 39, 3) := by decide +kernel
theorem dX0_mixFrom_94 : decode cX0_mixFrom 94 = .ok (.aload 7, 2) := by decide +kernel
theorem dX0_mixFrom_96 : decode cX0_mixFrom 96 = .ok (.aload 8, 2) := by decide +kernel
theorem dX0_mixFrom_98 : decode cX0_mixFrom 98 = .ok (.aload_n 1, 1) := by decide +kernel
theorem dX0_mixFrom_99 : decode cX0_mixFrom 99 = .ok (.iload_n 3, 1) := by decide +kernel
theorem dX0_mixFrom_100 : decode cX0_mixFrom 100 = .ok (.invokestatic 66, 3) := by decide +kernel
theorem dX0_mixFrom_103 : decode cX0_mixFrom 103 = .ok (.ifCond .eq 27, 3) := by decide +kernel
theorem dX0_mixFrom_106 : decode cX0_mixFrom 106 = .ok (.aload 8, 2) := by decide +kernel
theorem dX0_mixFrom_108 : decode cX0_mixFrom 108 = .ok (.getfield 82, 3) := by decide +kernel
theorem dX0_mixFrom_111 : decode cX0_mixFrom 111 = .ok (.bipush 6, 2) := by decide +kernel
theorem dX0_mixFrom_113 : decode cX0_mixFrom 113 = .ok (.iaload, 1) := by decide +kernel
theorem dX0_mixFrom_114 : decode cX0_mixFrom 114 = .ok (.ifCond .ne 16, 3) := by decide +kernel
theorem dX0_mixFrom_117 : decode cX0_mixFrom 117 = .ok (.aload_n 0, 1) := by decide +kernel
theorem dX0_mixFrom_118 : decode cX0_mixFrom 118 = .ok (.aload_n 1, 1) := by decide +kernel
theorem dX0_mixFrom_119 : decode cX0_mixFrom 119 = .ok (.aload_n 2, 1) := by decide +kernel
theorem dX0_mixFrom_120 : decode cX0_mixFrom 120 = .ok (.iload_n 3, 1) := by decide +kernel
theorem dX0_mixFrom_121 : decode cX0_mixFrom 121 = .ok (.iconst 1, 1) := by decide +kernel
theorem dX0_mixFrom_122 : decode cX0_mixFrom 122 = .ok (.iadd, 1) := by decide +kernel
theorem dX0_mixFrom_123 : decode cX0_mixFrom 123 = .ok (.iload 4, 2) := by decide +kernel
theorem dX0_mixFrom_125 : decode cX0_mixFrom 125 = .ok (.iload 5, 2) := by decide +kernel
theorem dX0_mixFrom_127 : decode cX0_mixFrom 127 = .ok (.invokevirtual 86, 3) := by decide +kernel
theorem dX0_mixFrom_130 : decode cX0_mixFrom 130 = .ok (.iload 4, 2) := by decide +kernel
theorem dX0_mixFrom_132 : decode cX0_mixFrom 132 = .ok (.aload_n 2, 1) := by decide +kernel
theorem dX0_mixFrom_133 : decode cX0_mixFrom 133 = .ok (.getfield 60, 3) := by decide +kernel
theorem dX0_mixFrom_136 : decode cX0_mixFrom 136 = .ok (.if_icmp .ge 45, 3) := by decide +kernel
theorem dX0_mixFrom_139 : decode cX0_mixFrom 139 = .ok (.aload 7, 2) := by decide +kernel
theorem dX0_mixFrom_141 : decode cX0_mixFrom 141 = .ok (.aload 8, 2) := by decide +kernel
theorem dX0_mixFrom_143 : decode cX0_mixFrom 143 = .ok (.aload_n 2, 1) := by decide +kernel
theorem dX0_mixFrom_144 : decode cX0_mixFrom 144 = .ok (.iload 4, 2) := by decide +kernel
theorem dX0_mixFrom_146 : decode cX0_mixFrom 146 = .ok (.invokestatic 66, 3) := by decide +kernel
theorem dX0_mixFrom_149 : decode cX0_mixFrom 149 = .ok (.ifCond .eq 32, 3) := by decide +kernel
theorem dX0_mixFrom_152 : decode cX0_mixFrom 152 = .ok (.aload 8, 2) := by decide +kernel
theorem dX0_mixFrom_154 : decode cX0_mixFrom 154 = .ok (.getfield 82, 3) := by decide +kernel
theorem dX0_mixFrom_157 : decode cX0_mixFrom 157 = .ok (.bipush 6, 2) := by decide +kernel
theorem dX0_mixFrom_159 : decode cX0_mixFrom 159 = .ok (.iaload, 1) := by decide +kernel
theorem dX0_mixFrom_160 : decode cX0_mixFrom 160 = .ok (.ifCond .ne 21, 3) := by decide +kernel
theorem dX0_mixFrom_163 : decode cX0_mixFrom 163 = .ok (.aload_n 0, 1) := by decide +kernel
theorem dX0_mixFrom_164 : decode cX0_mixFrom 164 = .ok (.aload_n 1, 1) := by decide +kernel
theorem dX0_mixFrom_165 : decode cX0_mixFrom 165 = .ok (.aload_n 2, 1) := by decide +kernel
theorem dX0_mixFrom_166 : decode cX0_mixFrom 166 = .ok (.iload_n 3, 1) := by decide +kernel
theorem dX0_mixFrom_167 : decode cX0_mixFrom 167 = .ok (.iload 4, 2) := by decide +kernel
theorem dX0_mixFrom_169 : decode cX0_mixFrom 169 = .ok (.iconst 1, 1) := by decide +kernel
theorem dX0_mixFrom_170 : decode cX0_mixFrom 170 = .ok (.iadd, 1) := by decide +kernel
theorem dX0_mixFrom_171 : decode cX0_mixFrom 171 = .ok (.iload 5, 2) := by decide +kernel
theorem dX0_mixFrom_173 : decode cX0_mixFrom 173 = .ok (.iconst 1, 1) := by decide +kernel
theorem dX0_mixFrom_174 : decode cX0_mixFrom 174 = .ok (.iload 6, 2) := by decide +kernel
theorem dX0_mixFrom_176 : decode cX0_mixFrom 176 = .ok (.ishl, 1) := by decide +kernel
theorem dX0_mixFrom_177 : decode cX0_mixFrom 177 = .ok (.ior, 1) := by decide +kernel
theorem dX0_mixFrom_178 : decode cX0_mixFrom 178 = .ok (.invokevirtual 86, 3) := by decide +kernel
theorem dX0_mixFrom_181 : decode cX0_mixFrom 181 = .ok (.return_, 1) := by decide +kernel
def fA_mixFrom_130k0 (u : Nat) (Γ : nx_G) (x : Nat) (a1 : Nat) (a2 : Nat) (a3 : Int32) (a4 : Int32) (a5 : Int32) (rc : nx_M → Nat → Nat → Nat → Int32 → Int32 → Int32 → Option (nx_M)) (q4 : Nat) (q6 : Nat) (k13 : nx_M) : Option (nx_M) :=
  (gI k13 a2 3 1).bind fun x14 =>
  if x14 ≤ a4 then
    some k13
  else
    (fA_goOn u Γ k13 q4 q6 a2 a4).bind fun p15 =>
    if p15.1 = true then
      (gR p15.2 q6 6 0).bind fun q16 =>
      (aI Γ p15.2 q16 (iz 6)).bind fun x17 =>
      if x17 = iz 0 then
        (gAt p15.2 x 0 (rc p15.2 x a1 a2 a3 (a4 + (iz 1)) (a5 ||| ((iz 1) <<< ((a3 + a4) &&& 31))))).bind fun D18 =>
        some D18
      else
        some p15.2
    else
      some p15.2
def fA_mixFrom_60k1 (u : Nat) (Γ : nx_G) (x : Nat) (a1 : Nat) (a2 : Nat) (a3 : Int32) (a4 : Int32) (a5 : Int32) (rc : nx_M → Nat → Nat → Nat → Int32 → Int32 → Int32 → Option (nx_M)) (k2 : nx_M) : Option (nx_M) :=
  if (a3 + a4) < (iz 12) then
    (gAt k2 x 0 (fA_level u Γ k2 x (a3 + a4))).bind fun p3 =>
    (p3.1).bind fun q4 =>
    (gAt p3.2 x 0 (fA_level u Γ p3.2 x ((a3 + a4) + (iz 1)))).bind fun p5 =>
    (p5.1).bind fun q6 =>
    (gI p5.2 a1 3 1).bind fun x7 =>
    (if x7 ≤ a3 then
       some p5.2
     else
       (fA_goOn u Γ p5.2 q4 q6 a1 a3).bind fun p8 =>
       if p8.1 = true then
         (gR p8.2 q6 6 0).bind fun q9 =>
         (aI Γ p8.2 q9 (iz 6)).bind fun x10 =>
         if x10 = iz 0 then
           (gAt p8.2 x 0 (rc p8.2 x a1 a2 (a3 + (iz 1)) a4 a5)).bind fun D11 =>
           some D11
         else
           some p8.2
       else
         some p8.2 : Option (nx_M)).bind fun s12 =>
    fA_mixFrom_130k0 u Γ x a1 a2 a3 a4 a5 rc q4 q6 s12
  else
    some k2
def fA_mixFrom_b (u : Nat) (rc : nx_M → Nat → Nat → Nat → Int32 → Int32 → Int32 → Option (nx_M)) (Γ : nx_G) (D : nx_M) (x : Nat) (a1 : Nat) (a2 : Nat) (a3 : Int32) (a4 : Int32) (a5 : Int32) : Option (nx_M) :=
  (gI D a1 3 1).bind fun x1 =>
  if a3 < x1 then
    fA_mixFrom_60k1 u Γ x a1 a2 a3 a4 a5 rc D
  else
    (gI D a2 3 1).bind fun x19 =>
    if a4 < x19 then
      fA_mixFrom_60k1 u Γ x a1 a2 a3 a4 a5 rc D
    else
      (gI D x 0 1).bind fun x20 =>
      (gPut D x 0 1 (.int (x20 + (iz 1)))).bind fun D21 =>
      (gI D21 x 0 2).bind fun x22 =>
      (if x22 = (iz (-1)) then
         some a5
       else
         (gI D21 x 0 2).bind fun x23 =>
         some (if a5 < x23 then a5 else x23) : Option (Int32)).bind fun s24 =>
      (gPut D21 x 0 2 (.int s24)).bind fun D25 =>
      some D25
set_option maxRecDepth 4000 in
theorem jA_mixFrom_130k0 {Γ : nx_G} {M0 : Nat → Option va_E} (u : Nat) (x : Nat) (a1 : Nat) (a2 : Nat) (a3 : Int32) (a4 : Int32) (a5 : Int32) (q4 : Nat) (q6 : Nat) (k13 : nx_M)  (dd : Nat) (hd0 : 7 ≤ dd) (rc : nx_M → Nat → Nat → Nat → Int32 → Int32 → Int32 → Option (nx_M)) (dr : Nat) (hdr : dr + 1 ≤ dd) (hrc : ∀ (l : Launch) {D : nx_M} {x : Nat} {a1 : Nat} {a2 : Nat} {a3 : Int32} {a4 : Int32} {a5 : Int32} {r : nx_M}, rc D x a1 a2 a3 a4 a5 = some r → nx_Ct l Γ dr yX0_mixFrom cX0_mixFrom 9 none [.ref x, .ref a1, .ref a2, .int a3, .int a4, .int a5] (ov M0 D) (none, (ov M0 r))) (X : nx_X) (Z : nx_Z) : nx_J Γ X (RX0, cX0_mixFrom, 9, none, "mixFrom", dd) Z (fun r0 : nx_M => .inr (none, (ov M0 r0))) (.inl (130, [some (.ref x), some (.ref a1), some (.ref a2), some (.int a3), some (.int a4), some (.int a5), some (.int (a3 + a4)), some (.ref q4), some (.ref q6)], [], (ov M0 k13))) (fA_mixFrom_130k0 u Γ x a1 a2 a3 a4 a5 rc q4 q6 k13) := by
  unfold fA_mixFrom_130k0
  refine nx_iload rfl dX0_mixFrom_130 rfl ?_
  refine nx_aload_n rfl dX0_mixFrom_132 rfl ?_
  refine g_geti (Or.inr fl_0_60) dX0_mixFrom_133 rfl (fun x14 => ?_)
  refine nx_icmp_ge (t := 181) dX0_mixFrom_136 (by decide) rfl ?_ ?_
  · exact nx_vret dX0_mixFrom_181 rfl rfl
  · refine nx_aload rfl dX0_mixFrom_139 rfl ?_
    refine nx_aload rfl dX0_mixFrom_141 rfl ?_
    refine nx_aload_n rfl dX0_mixFrom_143 rfl ?_
    refine nx_iload rfl dX0_mixFrom_144 rfl ?_
    refine nx_callSr [.ref q4, .ref q6, .ref a2, .int a4] (fun r => .int (bz r.1)) (fun r => ov M0 (r.2)) cw_0_66 wd_937 (fun r e => cA_goOn X.2.1 e) rfl rfl (Nat.le_of_ble_eq_true rfl) (Nat.le_trans (Nat.le_of_ble_eq_true rfl : 7 ≤ 7) hd0) dX0_mixFrom_146 rfl (fun p15 => ?_)
    refine nx_ifz_eq (t := 181) dX0_mixFrom_149 (by decide) rfl ?_ ?_
    · exact nx_vret dX0_mixFrom_181 rfl rfl
    · refine nx_aload rfl dX0_mixFrom_152 rfl ?_
      refine g_getr (Or.inr fl_0_82) dX0_mixFrom_154 rfl (fun q16 => ?_)
      refine nx_bipush (by decide +kernel) dX0_mixFrom_157 rfl ?_
      refine g_iald dX0_mixFrom_159 rfl (fun x17 => ?_)
      refine nx_if_ne (t := 181) dX0_mixFrom_160 (by decide) rfl ?_ ?_
      · exact nx_vret dX0_mixFrom_181 rfl rfl
      · refine nx_aload_n rfl dX0_mixFrom_163 rfl ?_
        refine nx_aload_n rfl dX0_mixFrom_164 rfl ?_
        refine nx_aload_n rfl dX0_mixFrom_165 rfl ?_
        refine nx_iload_n rfl dX0_mixFrom_166 rfl ?_
        refine nx_iload rfl dX0_mixFrom_167 rfl ?_
        refine nx_iconst dX0_mixFrom_169 rfl ?_
        refine nx_iadd dX0_mixFrom_170 rfl ?_
        refine nx_iload rfl dX0_mixFrom_171 rfl ?_
        refine nx_iconst dX0_mixFrom_173 rfl ?_
        refine nx_iload rfl dX0_mixFrom_174 rfl ?_
        refine nx_ishl dX0_mixFrom_176 rfl ?_
        refine nx_ior dX0_mixFrom_177 rfl ?_
        refine g_callGv [.ref a1, .ref a2, .int a3, .int (a4 + (iz 1)), .int (a5 ||| ((iz 1) <<< ((a3 + a4) &&& 31)))] (fun r => r) cw_0_86 cv_X0_mixFrom (fun r e => hrc X.2.1 e) rfl rfl (Nat.le_of_ble_eq_true rfl) hdr dX0_mixFrom_178 rfl (fun D18 => ?_)
        exact nx_vret dX0_mixFrom_181 rfl rfl
set_option maxRecDepth 4000 in
theorem jA_mixFrom_60k1 {Γ : nx_G} {M0 : Nat → Option va_E} (u : Nat) (x : Nat) (a1 : Nat) (a2 : Nat) (a3 : Int32) (a4 : Int32) (a5 : Int32) (k2 : nx_M)  (dd : Nat) (hd0 : 7 ≤ dd) (rc : nx_M → Nat → Nat → Nat → Int32 → Int32 → Int32 → Option (nx_M)) (dr : Nat) (hdr : dr + 1 ≤ dd) (hrc : ∀ (l : Launch) {D : nx_M} {x : Nat} {a1 : Nat} {a2 : Nat} {a3 : Int32} {a4 : Int32} {a5 : Int32} {r : nx_M}, rc D x a1 a2 a3 a4 a5 = some r → nx_Ct l Γ dr yX0_mixFrom cX0_mixFrom 9 none [.ref x, .ref a1, .ref a2, .int a3, .int a4, .int a5] (ov M0 D) (none, (ov M0 r))) (X : nx_X) (Z : nx_Z) : nx_J Γ X (RX0, cX0_mixFrom, 9, none, "mixFrom", dd) Z (fun r0 : nx_M => .inr (none, (ov M0 r0))) (.inl (60, [some (.ref x), some (.ref a1), some (.ref a2), some (.int a3), some (.int a4), some (.int a5), some (.int (a3 + a4)), none, none], [], (ov M0 k2))) (fA_mixFrom_60k1 u Γ x a1 a2 a3 a4 a5 rc k2) := by
  unfold fA_mixFrom_60k1
  refine nx_iload rfl dX0_mixFrom_60 rfl ?_
  refine nx_bipush (by decide +kernel) dX0_mixFrom_62 rfl ?_
  refine nx_icmp_lt (t := 68) dX0_mixFrom_64 (by decide) rfl ?_ ?_
  · refine nx_aload_n rfl dX0_mixFrom_68 rfl ?_
    refine nx_iload rfl dX0_mixFrom_69 rfl ?_
    refine g_callGr [.int (a3 + a4)] (fun r => va_rf r.1) (fun r => r.2) cw_0_27 cv_X0_level (fun r e => cA_level X.2.1 e) rfl rfl (Nat.le_of_ble_eq_true rfl) (Nat.le_trans (Nat.le_of_ble_eq_true rfl : 3 ≤ 7) hd0) dX0_mixFrom_71 rfl (fun p3 => ?_)
    refine nx_guard (fun q4 hq4 => ?_)
    rw [hq4]
    refine nx_astore [some (.ref x), some (.ref a1), some (.ref a2), some (.int a3), some (.int a4), some (.int a5), some (.int (a3 + a4)), some (.ref q4), none] dX0_mixFrom_74 rfl (Nat.le_of_ble_eq_true rfl) rfl rfl ?_
    refine nx_aload_n rfl dX0_mixFrom_76 rfl ?_
    refine nx_iload rfl dX0_mixFrom_77 rfl ?_
    refine nx_iconst dX0_mixFrom_79 rfl ?_
    refine nx_iadd dX0_mixFrom_80 rfl ?_
    refine g_callGr [.int ((a3 + a4) + (iz 1))] (fun r => va_rf r.1) (fun r => r.2) cw_0_27 cv_X0_level (fun r e => cA_level X.2.1 e) rfl rfl (Nat.le_of_ble_eq_true rfl) (Nat.le_trans (Nat.le_of_ble_eq_true rfl : 3 ≤ 7) hd0) dX0_mixFrom_81 rfl (fun p5 => ?_)
    refine nx_guard (fun q6 hq6 => ?_)
    rw [hq6]
    refine nx_astore [some (.ref x), some (.ref a1), some (.ref a2), some (.int a3), some (.int a4), some (.int a5), some (.int (a3 + a4)), some (.ref q4), some (.ref q6)] dX0_mixFrom_84 rfl (Nat.le_of_ble_eq_true rfl) rfl rfl ?_
    refine nx_iload_n rfl dX0_mixFrom_86 rfl ?_
    refine nx_aload_n rfl dX0_mixFrom_87 rfl ?_
    refine g_geti (Or.inr fl_0_60) dX0_mixFrom_88 rfl (fun x7 => ?_)
    refine nx_seq (C1 := fun s12 : nx_M => .inl (130, [some (.ref x), some (.ref a1), some (.ref a2), some (.int a3), some (.int a4), some (.int a5), some (.int (a3 + a4)), some (.ref q4), some (.ref q6)], [], (ov M0 s12))) ?_ (fun s12 => ?_)
    · refine nx_icmp_ge (t := 130) dX0_mixFrom_91 (by decide) rfl ?_ ?_
      · obtain ⟨_, _⟩ := p5
        exact nx_leaf rfl
      · refine nx_aload rfl dX0_mixFrom_94 rfl ?_
        refine nx_aload rfl dX0_mixFrom_96 rfl ?_
        refine nx_aload_n rfl dX0_mixFrom_98 rfl ?_
        refine nx_iload_n rfl dX0_mixFrom_99 rfl ?_
        refine nx_callSr [.ref q4, .ref q6, .ref a1, .int a3] (fun r => .int (bz r.1)) (fun r => ov M0 (r.2)) cw_0_66 wd_937 (fun r e => cA_goOn X.2.1 e) rfl rfl (Nat.le_of_ble_eq_true rfl) (Nat.le_trans (Nat.le_of_ble_eq_true rfl : 7 ≤ 7) hd0) dX0_mixFrom_100 rfl (fun p8 => ?_)
        refine nx_ifz_eq (t := 130) dX0_mixFrom_103 (by decide) rfl ?_ ?_
        · obtain ⟨_, _⟩ := p8
          exact nx_leaf rfl
        · refine nx_aload rfl dX0_mixFrom_106 rfl ?_
          refine g_getr (Or.inr fl_0_82) dX0_mixFrom_108 rfl (fun q9 => ?_)
          refine nx_bipush (by decide +kernel) dX0_mixFrom_111 rfl ?_
          refine g_iald dX0_mixFrom_113 rfl (fun x10 => ?_)
          refine nx_if_ne (t := 130) dX0_mixFrom_114 (by decide) rfl ?_ ?_
          · obtain ⟨_, _⟩ := p8
            exact nx_leaf rfl
          · refine nx_aload_n rfl dX0_mixFrom_117 rfl ?_
            refine nx_aload_n rfl dX0_mixFrom_118 rfl ?_
            refine nx_aload_n rfl dX0_mixFrom_119 rfl ?_
            refine nx_iload_n rfl dX0_mixFrom_120 rfl ?_
            refine nx_iconst dX0_mixFrom_121 rfl ?_
            refine nx_iadd dX0_mixFrom_122 rfl ?_
            refine nx_iload rfl dX0_mixFrom_123 rfl ?_
            refine nx_iload rfl dX0_mixFrom_125 rfl ?_
            refine g_callGv [.ref a1, .ref a2, .int (a3 + (iz 1)), .int a4, .int a5] (fun r => r) cw_0_86 cv_X0_mixFrom (fun r e => hrc X.2.1 e) rfl rfl (Nat.le_of_ble_eq_true rfl) hdr dX0_mixFrom_127 rfl (fun D11 => ?_)
            exact nx_leaf rfl
    exact jA_mixFrom_130k0  u x a1 a2 a3 a4 a5 q4 q6 s12 dd hd0 rc dr hdr hrc X Z
  · exact nx_vret dX0_mixFrom_67 rfl rfl
set_option maxRecDepth 4000 in
theorem jA_mixFrom {Γ : nx_G} {M0 : Nat → Option va_E} (u : Nat) (D : nx_M) (x : Nat) (a1 : Nat) (a2 : Nat) (a3 : Int32) (a4 : Int32) (a5 : Int32)  (dd : Nat) (hd0 : 7 ≤ dd) (rc : nx_M → Nat → Nat → Nat → Int32 → Int32 → Int32 → Option (nx_M)) (dr : Nat) (hdr : dr + 1 ≤ dd) (hrc : ∀ (l : Launch) {D : nx_M} {x : Nat} {a1 : Nat} {a2 : Nat} {a3 : Int32} {a4 : Int32} {a5 : Int32} {r : nx_M}, rc D x a1 a2 a3 a4 a5 = some r → nx_Ct l Γ dr yX0_mixFrom cX0_mixFrom 9 none [.ref x, .ref a1, .ref a2, .int a3, .int a4, .int a5] (ov M0 D) (none, (ov M0 r))) (X : nx_X) (Z : nx_Z) : nx_J Γ X (RX0, cX0_mixFrom, 9, none, "mixFrom", dd) Z (fun r0 : nx_M => .inr (none, (ov M0 r0))) (.inl (0, [some (.ref x), some (.ref a1), some (.ref a2), some (.int a3), some (.int a4), some (.int a5), none, none, none], [], (ov M0 D))) (fA_mixFrom_b u rc Γ D x a1 a2 a3 a4 a5) := by
  unfold fA_mixFrom_b
  refine nx_iload_n rfl dX0_mixFrom_0 rfl ?_
  refine nx_iload rfl dX0_mixFrom_1 rfl ?_
  refine nx_iadd dX0_mixFrom_3 rfl ?_
  refine nx_istore [some (.ref x), some (.ref a1), some (.ref a2), some (.int a3), some (.int a4), some (.int a5), some (.int (a3 + a4)), none, none] dX0_mixFrom_4 rfl (Nat.le_of_ble_eq_true rfl) rfl rfl ?_
  refine nx_iload_n rfl dX0_mixFrom_6 rfl ?_
  refine nx_aload_n rfl dX0_mixFrom_7 rfl ?_
  refine g_geti (Or.inr fl_0_60) dX0_mixFrom_8 rfl (fun x1 => ?_)
  refine nx_icmp_lt (t := 60) dX0_mixFrom_11 (by decide) rfl ?_ ?_
  · exact jA_mixFrom_60k1  u x a1 a2 a3 a4 a5 D dd hd0 rc dr hdr hrc X Z
  · refine nx_iload rfl dX0_mixFrom_14 rfl ?_
    refine nx_aload_n rfl dX0_mixFrom_16 rfl ?_
    refine g_geti (Or.inr fl_0_60) dX0_mixFrom_17 rfl (fun x19 => ?_)
    refine nx_icmp_lt (t := 60) dX0_mixFrom_20 (by decide) rfl ?_ ?_
    · exact jA_mixFrom_60k1  u x a1 a2 a3 a4 a5 D dd hd0 rc dr hdr hrc X Z
    · refine nx_aload_n rfl dX0_mixFrom_23 rfl ?_
      refine nx_dup rfl dX0_mixFrom_24 rfl ?_
      refine g_geti (Or.inl fl_0_76) dX0_mixFrom_25 rfl (fun x20 => ?_)
      refine nx_iconst dX0_mixFrom_28 rfl ?_
      refine nx_iadd dX0_mixFrom_29 rfl ?_
      refine g_put (Or.inl fl_0_76) ft_0_1 rfl rfl dX0_mixFrom_30 rfl (fun D21 => ?_)
      refine nx_aload_n rfl dX0_mixFrom_33 rfl ?_
      refine nx_aload_n rfl dX0_mixFrom_34 rfl ?_
      refine g_geti (Or.inl fl_0_79) dX0_mixFrom_35 rfl (fun x22 => ?_)
      refine nx_iconst dX0_mixFrom_38 rfl ?_
      refine nx_seq (C1 := fun s24 : Int32 => .inl (56, [some (.ref x), some (.ref a1), some (.ref a2), some (.int a3), some (.int a4), some (.int a5), some (.int (a3 + a4)), none, none], [.int s24, .ref x], (ov M0 D21))) ?_ (fun s24 => ?_)
      · refine nx_icmp_ne (t := 47) dX0_mixFrom_39 (by decide) rfl ?_ ?_
        · refine nx_aload_n rfl dX0_mixFrom_47 rfl ?_
          refine g_geti (Or.inl fl_0_79) dX0_mixFrom_48 rfl (fun x23 => ?_)
          refine nx_iload rfl dX0_mixFrom_51 rfl ?_
          refine nx_min wd_887 wd_645 wd_206 wd_646 (Nat.le_trans (Nat.le_of_ble_eq_true rfl : 1 ≤ 7) hd0) (Nat.le_of_ble_eq_true rfl) dX0_mixFrom_53 rfl ?_
          exact nx_leaf rfl
        · refine nx_iload rfl dX0_mixFrom_42 rfl ?_
          refine nx_goto (q := 56) dX0_mixFrom_44 (by decide) ?_
          exact nx_leaf rfl
      refine g_put (Or.inl fl_0_79) ft_0_2 rfl rfl dX0_mixFrom_56 rfl (fun D25 => ?_)
      exact nx_vret dX0_mixFrom_59 rfl rfl
def fA_mixFrom : Nat → Nat → nx_G → nx_M → Nat → Nat → Nat → Int32 → Int32 → Int32 → Option (nx_M)
  | 0, _, _, _, _, _, _, _, _, _ => none
  | n + 1, u, Γ, D, x, a1, a2, a3, a4, a5 => fA_mixFrom_b u (fA_mixFrom n u Γ) Γ D x a1 a2 a3 a4 a5
theorem cA_mixFrom (n : Nat) (l : Launch) {Γ : nx_G} {M0 : Nat → Option va_E} {u : Nat} {D : nx_M} {x : Nat} {a1 : Nat} {a2 : Nat} {a3 : Int32} {a4 : Int32} {a5 : Int32} {r : nx_M} (h : fA_mixFrom n u Γ D x a1 a2 a3 a4 a5 = some r) : nx_Ct l Γ (7 + n) yX0_mixFrom cX0_mixFrom 9 none [.ref x, .ref a1, .ref a2, .int a3, .int a4, .int a5] (ov M0 D) (none, (ov M0 r)) := by
  induction n generalizing l D x a1 a2 a3 a4 a5 r with
  | zero => cases h
  | succ n ih => exact nx_ct (out := fun r0 : nx_M => (none, (ov M0 r0))) [some (.ref x), some (.ref a1), some (.ref a2), some (.int a3), some (.int a4), some (.int a5), none, none, none] pn_RX0 h (Nat.le_of_ble_eq_true rfl) rfl (fun X Z _ => jA_mixFrom  u D x a1 a2 a3 a4 a5 (7 + (n + 1)) (Nat.le_add_right _ _) (fA_mixFrom n u Γ) (7 + n) (Nat.le_refl _) (fun l _ _ _ _ _ _ _ _ e => ih l e) X Z)
theorem dX7_mix_0 : decode cX7_mix 0 = .ok (.aload_n 0, 1) := by decide +kernel
theorem dX7_mix_1 : decode cX7_mix 1 = .ok (.iload_n 1, 1) := by decide +kernel
theorem dX7_mix_2 : decode cX7_mix 2 = .ok (.invokevirtual 235, 3) := by decide +kernel
theorem dX7_mix_5 : decode cX7_mix 5 = .ok (.astore 4, 2) := by decide +kernel
theorem dX7_mix_7 : decode cX7_mix 7 = .ok (.aload_n 0, 1) := by decide +kernel
theorem dX7_mix_8 : decode cX7_mix 8 = .ok (.iload_n 2, 1) := by decide +kernel
theorem dX7_mix_9 : decode cX7_mix 9 = .ok (.invokevirtual 235, 3) := by decide +kernel
theorem dX7_mix_12 : decode cX7_mix 12 = .ok (.astore 5, 2) := by decide +kernel
theorem dX7_mix_14 : decode cX7_mix 14 = .ok (.aload_n 0, 1) := by decide +kernel
theorem dX7_mix_15 : decode cX7_mix 15 = .ok (.getfield 37, 3) := by decide +kernel
theorem dX7_mix_18 : decode cX7_mix 18 = .ok (.invokevirtual 110, 3) := by decide +kernel
theorem dX7_mix_21 : decode cX7_mix 21 = .ok (.ifCond .eq 21, 3) := by decide +kernel
theorem dX7_mix_24 : decode cX7_mix 24 = .ok (.aload 4, 2) := by decide +kernel
theorem dX7_mix_26 : decode cX7_mix 26 = .ok (.ifnull 16, 3) := by decide +kernel
theorem dX7_mix_29 : decode cX7_mix 29 = .ok (.aload 5, 2) := by decide +kernel
theorem dX7_mix_31 : decode cX7_mix 31 = .ok (.ifnull 11, 3) := by decide +kernel
theorem dX7_mix_34 : decode cX7_mix 34 = .ok (.iload_n 3, 1) := by decide +kernel
theorem dX7_mix_35 : decode cX7_mix 35 = .ok (.iconst 3, 1) := by decide +kernel
theorem dX7_mix_36 : decode cX7_mix 36 = .ok (.invokestatic 114, 3) := by decide +kernel
theorem dX7_mix_39 : decode cX7_mix 39 = .ok (.ifCond .ne 6, 3) := by decide +kernel
theorem dX7_mix_42 : decode cX7_mix 42 = .ok (.ldc 147, 2) := by decide +kernel
theorem dX7_mix_44 : decode cX7_mix 44 = .ok (.ireturn, 1) := by decide +kernel
theorem dX7_mix_45 : decode cX7_mix 45 = .ok (.aload 4, 2) := by decide +kernel
theorem dX7_mix_47 : decode cX7_mix 47 = .ok (.getfield 239, 3) := by decide +kernel
theorem dX7_mix_50 : decode cX7_mix 50 = .ok (.bipush 6, 2) := by decide +kernel
theorem dX7_mix_52 : decode cX7_mix 52 = .ok (.if_icmp .gt 13, 3) := by decide +kernel
theorem dX7_mix_55 : decode cX7_mix 55 = .ok (.aload 5, 2) := by decide +kernel
theorem dX7_mix_57 : decode cX7_mix 57 = .ok (.getfield 239, 3) := by decide +kernel
theorem dX7_mix_60 : decode cX7_mix 60 = .ok (.bipush 6, 2) := by decide +kernel
theorem dX7_mix_62 : decode cX7_mix 62 = .ok (.if_icmp .le 6, 3) := by decide +kernel
theorem dX7_mix_65 : decode cX7_mix 65 = .ok (.ldc 147, 2) := by decide +kernel
theorem dX7_mix_67 : decode cX7_mix 67 = .ok (.ireturn, 1) := by decide +kernel
theorem dX7_mix_68 : decode cX7_mix 68 = .ok (.iload_n 3, 1) := by decide +kernel
theorem dX7_mix_69 : decode cX7_mix 69 = .ok (.ifCond .ne 17, 3) := by decide +kernel
theorem dX7_mix_72 : decode cX7_mix 72 = .ok (.aload 4, 2) := by decide +kernel
theorem dX7_mix_74 : decode cX7_mix 74 = .ok (.getfield 239, 3) := by decide +kernel
theorem dX7_mix_77 : decode cX7_mix 77 = .ok (.aload 5, 2) := by decide +kernel
theorem dX7_mix_79 : decode cX7_mix 79 = .ok (.getfield 239, 3) := by decide +kernel
theorem dX7_mix_82 : decode cX7_mix 82 = .ok (.invokestatic 255, 3) := by decide +kernel
theorem dX7_mix_85 : decode cX7_mix 85 = .ok (.ireturn, 1) := by decide +kernel
theorem dX7_mix_86 : decode cX7_mix 86 = .ok (.aload_n 0, 1) := by decide +kernel
theorem dX7_mix_87 : decode cX7_mix 87 = .ok (.getfield 54, 3) := by decide +kernel
theorem dX7_mix_90 : decode cX7_mix 90 = .ok (.aload_n 0, 1) := by decide +kernel
theorem dX7_mix_91 : decode cX7_mix 91 = .ok (.getfield 37, 3) := by decide +kernel
theorem dX7_mix_94 : decode cX7_mix 94 = .ok (.invokevirtual 258, 3) := by decide +kernel
theorem dX7_mix_97 : decode cX7_mix 97 = .ok (.aload_n 0, 1) := by decide +kernel
theorem dX7_mix_98 : decode cX7_mix 98 = .ok (.getfield 54, 3) := by decide +kernel
theorem dX7_mix_101 : decode cX7_mix 101 = .ok (.aload 4, 2) := by decide +kernel
theorem dX7_mix_103 : decode cX7_mix 103 = .ok (.aload 5, 2) := by decide +kernel
theorem dX7_mix_105 : decode cX7_mix 105 = .ok (.iconst 0, 1) := by decide +kernel
theorem dX7_mix_106 : decode cX7_mix 106 = .ok (.iconst 0, 1) := by decide +kernel
theorem dX7_mix_107 : decode cX7_mix 107 = .ok (.iconst 0, 1) := by decide +kernel
theorem dX7_mix_108 : decode cX7_mix 108 = .ok (.invokevirtual 261, 3) := by decide +kernel
theorem dX7_mix_111 : decode cX7_mix 111 = .ok (.iload_n 3, 1) := by decide +kernel
theorem dX7_mix_112 : decode cX7_mix 112 = .ok (.iconst 1, 1) := by decide +kernel
theorem dX7_mix_113 : decode cX7_mix 113 = .ok (.if_icmp .ne 13, 3) := by decide +kernel
theorem dX7_mix_116 : decode cX7_mix 116 = .ok (.aload_n 0, 1) := by decide +kernel
theorem dX7_mix_117 : decode cX7_mix 117 = .ok (.getfield 54, 3) := by decide +kernel
theorem dX7_mix_120 : decode cX7_mix 120 = .ok (.invokevirtual 265, 3) := by decide +kernel
theorem dX7_mix_123 : decode cX7_mix 123 = .ok (.goto 10, 3) := by decide +kernel
theorem dX7_mix_126 : decode cX7_mix 126 = .ok (.aload_n 0, 1) := by decide +kernel
theorem dX7_mix_127 : decode cX7_mix 127 = .ok (.getfield 54, 3) := by decide +kernel
theorem dX7_mix_130 : decode cX7_mix 130 = .ok (.invokevirtual 268, 3) := by decide +kernel
theorem dX7_mix_133 : decode cX7_mix 133 = .ok (.ireturn, 1) := by decide +kernel
def fC_mix (u : Nat) (Γ : nx_G) (D : nx_M) (x : Nat) (a1 : Int32) (a2 : Int32) (a3 : Int32) : Option (Int32 × nx_M) :=
  (gAt D x 7 (fC_scriptAt u Γ D x a1)).bind fun x1 =>
  (gAt D x 7 (fC_scriptAt u Γ D x a2)).bind fun x2 =>
  (gR D x 7 5).bind fun q3 =>
  (wRd Γ D q3 (fun f => fW_hasStore u f)).bind fun b4 =>
  if b4 = true then
    if x1 = none then
      some (((-1000000) : Int32), D)
    else
      if x2 = none then
        some (((-1000000) : Int32), D)
      else
        (fL_within u a3 (iz 3)).bind fun b5 =>
        if b5 = true then
          (x1).bind fun q6 =>
          (gI D q6 3 1).bind fun x7 =>
          if (iz 6) < x7 then
            some (((-1000000) : Int32), D)
          else
            (x2).bind fun q8 =>
            (gI D q8 3 1).bind fun x9 =>
            if x9 ≤ (iz 6) then
              if a3 = iz 0 then
                (gI D q6 3 1).bind fun x19 =>
                (gI D q8 3 1).bind fun x20 =>
                (fL_rowsOf u x19 x20).bind fun x21 =>
                some (x21, D)
              else
                (gR D x 7 9).bind fun q10 =>
                (gR D x 7 5).bind fun q11 =>
                (gAt D q10 0 (fA_beginMix u Γ D q10 q11)).bind fun D12 =>
                (gR D12 x 7 9).bind fun q13 =>
                (gAt D12 q13 0 (fA_mixFrom 20 u Γ D12 q13 q6 q8 (iz 0) (iz 0) (iz 0))).bind fun D14 =>
                if a3 = (iz 1) then
                  (gR D14 x 7 9).bind fun q17 =>
                  (gAt D14 q17 0 (fA_goodRows u Γ D14 q17)).bind fun x18 =>
                  some (x18, D14)
                else
                  (gR D14 x 7 9).bind fun q15 =>
                  (gAt D14 q15 0 (fA_firstGoodRow u Γ D14 q15)).bind fun x16 =>
                  some (x16, D14)
            else
              some (((-1000000) : Int32), D)
        else
          some (((-1000000) : Int32), D)
  else
    some (((-1000000) : Int32), D)
set_option maxRecDepth 4000 in
theorem jC_mix {Γ : nx_G} {M0 : Nat → Option va_E} (u : Nat) (D : nx_M) (x : Nat) (a1 : Int32) (a2 : Int32) (a3 : Int32)   (X : nx_X) (Z : nx_Z) : nx_J Γ X (RX7, cX7_mix, 6, (some .int), "mix", 28) Z (fun r0 : Int32 × nx_M => .inr (some (.int r0.1), (ov M0 r0.2))) (.inl (0, [some (.ref x), some (.int a1), some (.int a2), some (.int a3), none, none], [], (ov M0 D))) (fC_mix u Γ D x a1 a2 a3) := by
  unfold fC_mix
  refine nx_aload_n rfl dX7_mix_0 rfl ?_
  refine nx_iload_n rfl dX7_mix_1 rfl ?_
  refine g_callGr [.int a1] (fun r => va_rf r) (fun _ => D) cw_7_235 cv_X7_scriptAt (fun r e => cC_scriptAt X.2.1 e) rfl rfl (Nat.le_of_ble_eq_true rfl) (Nat.le_of_ble_eq_true rfl) dX7_mix_2 rfl (fun x1 => ?_)
  refine nx_qstore [some (.ref x), some (.int a1), some (.int a2), some (.int a3), some (va_rf x1), none] dX7_mix_5 rfl (Nat.le_of_ble_eq_true rfl) rfl rfl ?_
  refine nx_aload_n rfl dX7_mix_7 rfl ?_
  refine nx_iload_n rfl dX7_mix_8 rfl ?_
  refine g_callGr [.int a2] (fun r => va_rf r) (fun _ => D) cw_7_235 cv_X7_scriptAt (fun r e => cC_scriptAt X.2.1 e) rfl rfl (Nat.le_of_ble_eq_true rfl) (Nat.le_of_ble_eq_true rfl) dX7_mix_9 rfl (fun x2 => ?_)
  refine nx_qstore [some (.ref x), some (.int a1), some (.int a2), some (.int a3), some (va_rf x1), some (va_rf x2)] dX7_mix_12 rfl (Nat.le_of_ble_eq_true rfl) (nx_okq (j := 4) rfl rfl) rfl ?_
  refine nx_aload_n rfl dX7_mix_14 rfl ?_
  refine g_getr (Or.inl fl_7_37) dX7_mix_15 rfl (fun q3 => ?_)
  refine g_callWr [] (fun r => .int (bz r)) cw_7_110 cv_X6_hasStore (fun M1 c f r hw hc e => cW_hasStore X.2.1 hw hc e) rfl rfl (Nat.le_of_ble_eq_true rfl) (Nat.le_of_ble_eq_true rfl) dX7_mix_18 rfl (fun b4 => ?_)
  refine nx_ifz_eq (t := 42) dX7_mix_21 (by decide) rfl ?_ ?_
  · refine nx_ldc wd_544 dX7_mix_42 rfl ?_
    exact nx_iret dX7_mix_44 rfl rfl
  · refine nx_qload rfl dX7_mix_24 rfl ?_
    refine nx_ifnull (t := 42) dX7_mix_26 (by decide) rfl ?_ ?_
    · refine nx_ldc wd_544 dX7_mix_42 rfl ?_
      exact nx_iret dX7_mix_44 rfl rfl
    · refine nx_qload rfl dX7_mix_29 rfl ?_
      refine nx_ifnull (t := 42) dX7_mix_31 (by decide) rfl ?_ ?_
      · refine nx_ldc wd_544 dX7_mix_42 rfl ?_
        exact nx_iret dX7_mix_44 rfl rfl
      · refine nx_iload_n rfl dX7_mix_34 rfl ?_
        refine nx_iconst dX7_mix_35 rfl ?_
        refine nx_callSr [.int a3, .int (iz 3)] (fun r => .int (bz r)) (fun _ => (ov M0 D)) cw_7_114 wd_442 (fun r e => cL_within X.2.1  e) rfl rfl (Nat.le_of_ble_eq_true rfl) (Nat.le_of_ble_eq_true rfl) dX7_mix_36 rfl (fun b5 => ?_)
        refine nx_ifz_ne (t := 45) dX7_mix_39 (by decide) rfl ?_ ?_
        · refine nx_qload rfl dX7_mix_45 rfl ?_
          refine nx_guard (fun q6 hq6 => ?_)
          rw [hq6]
          refine g_geti (Or.inr fl_7_239) dX7_mix_47 rfl (fun x7 => ?_)
          refine nx_bipush (by decide +kernel) dX7_mix_50 rfl ?_
          refine nx_icmp_gt (t := 65) dX7_mix_52 (by decide) rfl ?_ ?_
          · refine nx_ldc wd_544 dX7_mix_65 rfl ?_
            exact nx_iret dX7_mix_67 rfl rfl
          · refine nx_qload rfl dX7_mix_55 rfl ?_
            refine nx_guard (fun q8 hq8 => ?_)
            rw [hq8]
            refine g_geti (Or.inr fl_7_239) dX7_mix_57 rfl (fun x9 => ?_)
            refine nx_bipush (by decide +kernel) dX7_mix_60 rfl ?_
            refine nx_icmp_le (t := 68) dX7_mix_62 (by decide) rfl ?_ ?_
            · refine nx_iload_n rfl dX7_mix_68 rfl ?_
              refine nx_if_ne (t := 86) dX7_mix_69 (by decide) rfl ?_ ?_
              · refine nx_aload_n rfl dX7_mix_86 rfl ?_
                refine g_getr (Or.inl fl_7_54) dX7_mix_87 rfl (fun q10 => ?_)
                refine nx_aload_n rfl dX7_mix_90 rfl ?_
                refine g_getr (Or.inl fl_7_37) dX7_mix_91 rfl (fun q11 => ?_)
                refine g_callGv [.ref q11] (fun r => r) cw_7_258 cv_X0_beginMix (fun r e => cA_beginMix X.2.1 e) rfl rfl (Nat.le_of_ble_eq_true rfl) (Nat.le_of_ble_eq_true rfl) dX7_mix_94 rfl (fun D12 => ?_)
                refine nx_aload_n rfl dX7_mix_97 rfl ?_
                refine g_getr (Or.inl fl_7_54) dX7_mix_98 rfl (fun q13 => ?_)
                refine nx_aload rfl dX7_mix_101 rfl ?_
                refine nx_aload rfl dX7_mix_103 rfl ?_
                refine nx_iconst dX7_mix_105 rfl ?_
                refine nx_iconst dX7_mix_106 rfl ?_
                refine nx_iconst dX7_mix_107 rfl ?_
                refine g_callGv [.ref q6, .ref q8, .int (iz 0), .int (iz 0), .int (iz 0)] (fun r => r) cw_7_261 cv_X0_mixFrom (fun r e => cA_mixFrom 20 X.2.1 e) rfl rfl (Nat.le_of_ble_eq_true rfl) (Nat.le_of_ble_eq_true rfl) dX7_mix_108 rfl (fun D14 => ?_)
                refine nx_iload_n rfl dX7_mix_111 rfl ?_
                refine nx_iconst dX7_mix_112 rfl ?_
                refine nx_icmp_ne (t := 126) dX7_mix_113 (by decide) rfl ?_ ?_
                · refine nx_aload_n rfl dX7_mix_126 rfl ?_
                  refine g_getr (Or.inl fl_7_54) dX7_mix_127 rfl (fun q15 => ?_)
                  refine g_callGr [] (fun r => .int r) (fun _ => D14) cw_7_268 cv_X0_firstGoodRow (fun r e => cA_firstGoodRow X.2.1 e) rfl rfl (Nat.le_of_ble_eq_true rfl) (Nat.le_of_ble_eq_true rfl) dX7_mix_130 rfl (fun x16 => ?_)
                  exact nx_iret dX7_mix_133 rfl rfl
                · refine nx_aload_n rfl dX7_mix_116 rfl ?_
                  refine g_getr (Or.inl fl_7_54) dX7_mix_117 rfl (fun q17 => ?_)
                  refine g_callGr [] (fun r => .int r) (fun _ => D14) cw_7_265 cv_X0_goodRows (fun r e => cA_goodRows X.2.1 e) rfl rfl (Nat.le_of_ble_eq_true rfl) (Nat.le_of_ble_eq_true rfl) dX7_mix_120 rfl (fun x18 => ?_)
                  refine nx_goto (q := 133) dX7_mix_123 (by decide) ?_
                  exact nx_iret dX7_mix_133 rfl rfl
              · refine nx_aload rfl dX7_mix_72 rfl ?_
                refine g_geti (Or.inr fl_7_239) dX7_mix_74 rfl (fun x19 => ?_)
                refine nx_aload rfl dX7_mix_77 rfl ?_
                refine g_geti (Or.inr fl_7_239) dX7_mix_79 rfl (fun x20 => ?_)
                refine nx_callSr [.int x19, .int x20] (fun r => .int r) (fun _ => (ov M0 D)) cw_7_255 wd_955 (fun r e => cL_rowsOf X.2.1  e) rfl rfl (Nat.le_of_ble_eq_true rfl) (Nat.le_of_ble_eq_true rfl) dX7_mix_82 rfl (fun x21 => ?_)
                exact nx_iret dX7_mix_85 rfl rfl
            · refine nx_ldc wd_544 dX7_mix_65 rfl ?_
              exact nx_iret dX7_mix_67 rfl rfl
        · refine nx_ldc wd_544 dX7_mix_42 rfl ?_
          exact nx_iret dX7_mix_44 rfl rfl
theorem cC_mix (l : Launch) {Γ : nx_G} {M0 : Nat → Option va_E} {u : Nat} {D : nx_M} {x : Nat} {a1 : Int32} {a2 : Int32} {a3 : Int32} {r : Int32 × nx_M}  (h : fC_mix u Γ D x a1 a2 a3 = some r) : nx_Ct l Γ 28 yX7_mix cX7_mix 6 (some .int) [.ref x, .int a1, .int a2, .int a3] (ov M0 D) (some (.int r.1), (ov M0 r.2)) :=
  nx_ct (out := fun r0 : Int32 × nx_M => (some (.int r0.1), (ov M0 r0.2))) [some (.ref x), some (.int a1), some (.int a2), some (.int a3), none, none] pn_RX7 h (Nat.le_of_ble_eq_true rfl) rfl (fun X Z _ => jC_mix  u D x a1 a2 a3 X Z)
theorem dX0_partsFrom_0 : decode cX0_partsFrom 0 = .ok (.lload_n 3, 1) := by decide +kernel
theorem dX0_partsFrom_1 : decode cX0_partsFrom 1 = .ok (.lconst 0, 1) := by decide +kernel
theorem dX0_partsFrom_2 : decode cX0_partsFrom 2 = .ok (.lcmp, 1) := by decide +kernel
theorem dX0_partsFrom_3 : decode cX0_partsFrom 3 = .ok (.ifCond .eq 9, 3) := by decide +kernel
theorem dX0_partsFrom_6 : decode cX0_partsFrom 6 = .ok (.iload_n 1, 1) := by decide +kernel
theorem dX0_partsFrom_7 : decode cX0_partsFrom 7 = .ok (.bipush 8, 2) := by decide +kernel
theorem dX0_partsFrom_9 : decode cX0_partsFrom 9 = .ok (.if_icmp .le 5, 3) := by decide +kernel
theorem dX0_partsFrom_12 : decode cX0_partsFrom 12 = .ok (.lconst 0, 1) := by decide +kernel
theorem dX0_partsFrom_13 : decode cX0_partsFrom 13 = .ok (.lreturn, 1) := by decide +kernel
theorem dX0_partsFrom_14 : decode cX0_partsFrom 14 = .ok (.aload_n 0, 1) := by decide +kernel
theorem dX0_partsFrom_15 : decode cX0_partsFrom 15 = .ok (.iload_n 1, 1) := by decide +kernel
theorem dX0_partsFrom_16 : decode cX0_partsFrom 16 = .ok (.invokevirtual 27, 3) := by decide +kernel
theorem dX0_partsFrom_19 : decode cX0_partsFrom 19 = .ok (.astore 5, 2) := by decide +kernel
theorem dX0_partsFrom_21 : decode cX0_partsFrom 21 = .ok (.aload_n 0, 1) := by decide +kernel
theorem dX0_partsFrom_22 : decode cX0_partsFrom 22 = .ok (.iload_n 2, 1) := by decide +kernel
theorem dX0_partsFrom_23 : decode cX0_partsFrom 23 = .ok (.invokevirtual 108, 3) := by decide +kernel
theorem dX0_partsFrom_26 : decode cX0_partsFrom 26 = .ok (.istore 6, 2) := by decide +kernel
theorem dX0_partsFrom_28 : decode cX0_partsFrom 28 = .ok (.iload 6, 2) := by decide +kernel
theorem dX0_partsFrom_30 : decode cX0_partsFrom 30 = .ok (.bipush 8, 2) := by decide +kernel
theorem dX0_partsFrom_32 : decode cX0_partsFrom 32 = .ok (.if_icmp .lt 27, 3) := by decide +kernel
theorem dX0_partsFrom_35 : decode cX0_partsFrom 35 = .ok (.aload 5, 2) := by decide +kernel
theorem dX0_partsFrom_37 : decode cX0_partsFrom 37 = .ok (.invokestatic 111, 3) := by decide +kernel
theorem dX0_partsFrom_40 : decode cX0_partsFrom 40 = .ok (.aload 5, 2) := by decide +kernel
theorem dX0_partsFrom_42 : decode cX0_partsFrom 42 = .ok (.aload_n 0, 1) := by decide +kernel
theorem dX0_partsFrom_43 : decode cX0_partsFrom 43 = .ok (.getfield 90, 3) := by decide +kernel
theorem dX0_partsFrom_46 : decode cX0_partsFrom 46 = .ok (.invokevirtual 57, 3) := by decide +kernel
theorem dX0_partsFrom_49 : decode cX0_partsFrom 49 = .ok (.iconst 3, 1) := by decide +kernel
theorem dX0_partsFrom_50 : decode cX0_partsFrom 50 = .ok (.if_icmp .ne 7, 3) := by decide +kernel
theorem dX0_partsFrom_53 : decode cX0_partsFrom 53 = .ok (.lload_n 3, 1) := by decide +kernel
theorem dX0_partsFrom_54 : decode cX0_partsFrom 54 = .ok (.goto 4, 3) := by decide +kernel
theorem dX0_partsFrom_57 : decode cX0_partsFrom 57 = .ok (.lconst 0, 1) := by decide +kernel
theorem dX0_partsFrom_58 : decode cX0_partsFrom 58 = .ok (.lreturn, 1) := by decide +kernel
theorem dX0_partsFrom_59 : decode cX0_partsFrom 59 = .ok (.lload_n 3, 1) := by decide +kernel
theorem dX0_partsFrom_60 : decode cX0_partsFrom 60 = .ok (.aload_n 0, 1) := by decide +kernel
theorem dX0_partsFrom_61 : decode cX0_partsFrom 61 = .ok (.getfield 93, 3) := by decide +kernel
theorem dX0_partsFrom_64 : decode cX0_partsFrom 64 = .ok (.i2l, 1) := by decide +kernel
theorem dX0_partsFrom_65 : decode cX0_partsFrom 65 = .ok (.lmul, 1) := by decide +kernel
theorem dX0_partsFrom_66 : decode cX0_partsFrom 66 = .ok (.ldc2_w 114, 3) := by decide +kernel
theorem dX0_partsFrom_69 : decode cX0_partsFrom 69 = .ok (.ldiv, 1) := by decide +kernel
theorem dX0_partsFrom_70 : decode cX0_partsFrom 70 = .ok (.lstore 7, 2) := by decide +kernel
theorem dX0_partsFrom_72 : decode cX0_partsFrom 72 = .ok (.aload_n 0, 1) := by decide +kernel
theorem dX0_partsFrom_73 : decode cX0_partsFrom 73 = .ok (.iload_n 1, 1) := by decide +kernel
theorem dX0_partsFrom_74 : decode cX0_partsFrom 74 = .ok (.iconst 1, 1) := by decide +kernel
theorem dX0_partsFrom_75 : decode cX0_partsFrom 75 = .ok (.iadd, 1) := by decide +kernel
theorem dX0_partsFrom_76 : decode cX0_partsFrom 76 = .ok (.invokevirtual 27, 3) := by decide +kernel
theorem dX0_partsFrom_79 : decode cX0_partsFrom 79 = .ok (.astore 9, 2) := by decide +kernel
theorem dX0_partsFrom_81 : decode cX0_partsFrom 81 = .ok (.aload 9, 2) := by decide +kernel
theorem dX0_partsFrom_83 : decode cX0_partsFrom 83 = .ok (.aload 5, 2) := by decide +kernel
theorem dX0_partsFrom_85 : decode cX0_partsFrom 85 = .ok (.invokevirtual 31, 3) := by decide +kernel
theorem dX0_partsFrom_88 : decode cX0_partsFrom 88 = .ok (.aload 9, 2) := by decide +kernel
theorem dX0_partsFrom_90 : decode cX0_partsFrom 90 = .ok (.iload 6, 2) := by decide +kernel
theorem dX0_partsFrom_92 : decode cX0_partsFrom 92 = .ok (.invokevirtual 116, 3) := by decide +kernel
theorem dX0_partsFrom_95 : decode cX0_partsFrom 95 = .ok (.ifCond .eq 11, 3) := by decide +kernel
theorem dX0_partsFrom_98 : decode cX0_partsFrom 98 = .ok (.aload 9, 2) := by decide +kernel
theorem dX0_partsFrom_100 : decode cX0_partsFrom 100 = .ok (.iload 6, 2) := by decide +kernel
theorem dX0_partsFrom_102 : decode cX0_partsFrom 102 = .ok (.invokevirtual 120, 3) := by decide +kernel
theorem dX0_partsFrom_105 : decode cX0_partsFrom 105 = .ok (.pop, 1) := by decide +kernel
theorem dX0_partsFrom_106 : decode cX0_partsFrom 106 = .ok (.aload_n 0, 1) := by decide +kernel
theorem dX0_partsFrom_107 : decode cX0_partsFrom 107 = .ok (.iload_n 1, 1) := by decide +kernel
theorem dX0_partsFrom_108 : decode cX0_partsFrom 108 = .ok (.iconst 1, 1) := by decide +kernel
theorem dX0_partsFrom_109 : decode cX0_partsFrom 109 = .ok (.iadd, 1) := by decide +kernel
theorem dX0_partsFrom_110 : decode cX0_partsFrom 110 = .ok (.iload 6, 2) := by decide +kernel
theorem dX0_partsFrom_112 : decode cX0_partsFrom 112 = .ok (.iconst 1, 1) := by decide +kernel
theorem dX0_partsFrom_113 : decode cX0_partsFrom 113 = .ok (.iadd, 1) := by decide +kernel
theorem dX0_partsFrom_114 : decode cX0_partsFrom 114 = .ok (.lload 7, 2) := by decide +kernel
theorem dX0_partsFrom_116 : decode cX0_partsFrom 116 = .ok (.invokevirtual 104, 3) := by decide +kernel
theorem dX0_partsFrom_119 : decode cX0_partsFrom 119 = .ok (.lstore 10, 2) := by decide +kernel
theorem dX0_partsFrom_121 : decode cX0_partsFrom 121 = .ok (.lload 10, 2) := by decide +kernel
theorem dX0_partsFrom_123 : decode cX0_partsFrom 123 = .ok (.aload_n 0, 1) := by decide +kernel
theorem dX0_partsFrom_124 : decode cX0_partsFrom 124 = .ok (.iload_n 1, 1) := by decide +kernel
theorem dX0_partsFrom_125 : decode cX0_partsFrom 125 = .ok (.iload 6, 2) := by decide +kernel
theorem dX0_partsFrom_127 : decode cX0_partsFrom 127 = .ok (.iconst 1, 1) := by decide +kernel
theorem dX0_partsFrom_128 : decode cX0_partsFrom 128 = .ok (.iadd, 1) := by decide +kernel
theorem dX0_partsFrom_129 : decode cX0_partsFrom 129 = .ok (.lload_n 3, 1) := by decide +kernel
theorem dX0_partsFrom_130 : decode cX0_partsFrom 130 = .ok (.lload 7, 2) := by decide +kernel
theorem dX0_partsFrom_132 : decode cX0_partsFrom 132 = .ok (.lsub, 1) := by decide +kernel
theorem dX0_partsFrom_133 : decode cX0_partsFrom 133 = .ok (.invokevirtual 104, 3) := by decide +kernel
theorem dX0_partsFrom_136 : decode cX0_partsFrom 136 = .ok (.ladd, 1) := by decide +kernel
theorem dX0_partsFrom_137 : decode cX0_partsFrom 137 = .ok (.lreturn, 1) := by decide +kernel
def fA_partsFrom_106k0 (x : Nat) (a1 : Int32) (a3 : Int64) (rc : nx_M → Nat → Int32 → Int32 → Int64 → Option (Int64 × nx_M)) (x3 : Int32) (x5 : Int64) (k12 : nx_M) : Option (Int64 × nx_M) :=
  (gAt k12 x 0 (rc k12 x (a1 + (iz 1)) (x3 + (iz 1)) x5)).bind fun p13 =>
  (gAt p13.2 x 0 (rc p13.2 x a1 (x3 + (iz 1)) (a3 - x5))).bind fun p14 =>
  some ((p13.1 + p14.1), p14.2)
def fA_partsFrom_b (u : Nat) (rc : nx_M → Nat → Int32 → Int32 → Int64 → Option (Int64 × nx_M)) (Γ : nx_G) (D : nx_M) (x : Nat) (a1 : Int32) (a2 : Int32) (a3 : Int64) : Option (Int64 × nx_M) :=
  if (lg_cmp a3 (Int64.ofNat 0)) = iz 0 then
    some ((Int64.ofNat 0), D)
  else
    if a1 ≤ (iz 8) then
      (gAt D x 0 (fA_level u Γ D x a1)).bind fun p1 =>
      (p1.1).bind fun q2 =>
      (gAt p1.2 x 0 (fA_nextDrawn u Γ p1.2 x a2)).bind fun x3 =>
      if x3 < (iz 8) then
        (gI p1.2 x 0 4).bind fun x4 =>
        (nx_dvl (a3 * x4.toInt64) (100 : Int64)).bind fun x5 =>
        (gAt p1.2 x 0 (fA_level u Γ p1.2 x (a1 + (iz 1)))).bind fun p6 =>
        (p6.1).bind fun q7 =>
        (gAt p6.2 q7 6 (fW_become u Γ p6.2 q7 q2)).bind fun D8 =>
        (wRd Γ D8 q7 (fun f => fW_isLive u f x3)).bind fun b9 =>
        (if b9 = true then
           (wWr Γ D8 q7 (fun f => fW_fallWithAll u f x3)).bind fun p10 =>
           some p10.2
         else
           some D8 : Option (nx_M)).bind fun s11 =>
        fA_partsFrom_106k0 x a1 a3 rc x3 x5 s11
      else
        (fA_commitAll u Γ p1.2 q2).bind fun D15 =>
        (gI D15 x 0 3).bind fun x16 =>
        (wRd Γ D15 q2 (fun f => fW_stateOf u f x16)).bind fun x17 =>
        if x17 = (iz 3) then
          some (a3, D15)
        else
          some ((Int64.ofNat 0), D15)
    else
      some ((Int64.ofNat 0), D)
set_option maxRecDepth 4000 in
theorem jA_partsFrom_106k0 {Γ : nx_G} {M0 : Nat → Option va_E} (x : Nat) (a1 : Int32) (a2 : Int32) (a3 : Int64) (q2 : Nat) (x3 : Int32) (x5 : Int64) (q7 : Nat) (k12 : nx_M)  (dd : Nat) (hd0 : 6 ≤ dd) (rc : nx_M → Nat → Int32 → Int32 → Int64 → Option (Int64 × nx_M)) (dr : Nat) (hdr : dr + 1 ≤ dd) (hrc : ∀ (l : Launch) {D : nx_M} {x : Nat} {a1 : Int32} {a2 : Int32} {a3 : Int64} {r : Int64 × nx_M}, rc D x a1 a2 a3 = some r → nx_Ct l Γ dr yX0_partsFrom cX0_partsFrom 12 (some .long) [.ref x, .int a1, .int a2, .long a3] (ov M0 D) (some (.long r.1), (ov M0 r.2))) (X : nx_X) (Z : nx_Z) : nx_J Γ X (RX0, cX0_partsFrom, 12, (some .long), "partsFrom", dd) Z (fun r0 : Int64 × nx_M => .inr (some (.long r0.1), (ov M0 r0.2))) (.inl (106, [some (.ref x), some (.int a1), some (.int a2), some (.long a3), none, some (.ref q2), some (.int x3), some (.long x5), none, some (.ref q7), none, none], [], (ov M0 k12))) (fA_partsFrom_106k0 x a1 a3 rc x3 x5 k12) := by
  unfold fA_partsFrom_106k0
  refine nx_aload_n rfl dX0_partsFrom_106 rfl ?_
  refine nx_iload_n rfl dX0_partsFrom_107 rfl ?_
  refine nx_iconst dX0_partsFrom_108 rfl ?_
  refine nx_iadd dX0_partsFrom_109 rfl ?_
  refine nx_iload rfl dX0_partsFrom_110 rfl ?_
  refine nx_iconst dX0_partsFrom_112 rfl ?_
  refine nx_iadd dX0_partsFrom_113 rfl ?_
  refine nx_lload rfl dX0_partsFrom_114 rfl ?_
  refine g_callGr [.int (a1 + (iz 1)), .int (x3 + (iz 1)), .long x5] (fun r => .long r.1) (fun r => r.2) cw_0_104 cv_X0_partsFrom (fun r e => hrc X.2.1 e) rfl rfl (Nat.le_of_ble_eq_true rfl) hdr dX0_partsFrom_116 rfl (fun p13 => ?_)
  refine nx_lstore [some (.ref x), some (.int a1), some (.int a2), some (.long a3), none, some (.ref q2), some (.int x3), some (.long x5), none, some (.ref q7), some (.long p13.1), none] dX0_partsFrom_119 rfl (Nat.le_of_ble_eq_true rfl) rfl rfl ?_
  refine nx_lload rfl dX0_partsFrom_121 rfl ?_
  refine nx_aload_n rfl dX0_partsFrom_123 rfl ?_
  refine nx_iload_n rfl dX0_partsFrom_124 rfl ?_
  refine nx_iload rfl dX0_partsFrom_125 rfl ?_
  refine nx_iconst dX0_partsFrom_127 rfl ?_
  refine nx_iadd dX0_partsFrom_128 rfl ?_
  refine nx_lload_n rfl dX0_partsFrom_129 rfl ?_
  refine nx_lload rfl dX0_partsFrom_130 rfl ?_
  refine nx_lsub dX0_partsFrom_132 rfl ?_
  refine g_callGr [.int a1, .int (x3 + (iz 1)), .long (a3 - x5)] (fun r => .long r.1) (fun r => r.2) cw_0_104 cv_X0_partsFrom (fun r e => hrc X.2.1 e) rfl rfl (Nat.le_of_ble_eq_true rfl) hdr dX0_partsFrom_133 rfl (fun p14 => ?_)
  refine nx_ladd dX0_partsFrom_136 rfl ?_
  exact nx_lret dX0_partsFrom_137 rfl rfl
set_option maxRecDepth 4000 in
theorem jA_partsFrom {Γ : nx_G} {M0 : Nat → Option va_E} (u : Nat) (D : nx_M) (x : Nat) (a1 : Int32) (a2 : Int32) (a3 : Int64)  (dd : Nat) (hd0 : 6 ≤ dd) (rc : nx_M → Nat → Int32 → Int32 → Int64 → Option (Int64 × nx_M)) (dr : Nat) (hdr : dr + 1 ≤ dd) (hrc : ∀ (l : Launch) {D : nx_M} {x : Nat} {a1 : Int32} {a2 : Int32} {a3 : Int64} {r : Int64 × nx_M}, rc D x a1 a2 a3 = some r → nx_Ct l Γ dr yX0_partsFrom cX0_partsFrom 12 (some .long) [.ref x, .int a1, .int a2, .long a3] (ov M0 D) (some (.long r.1), (ov M0 r.2))) (X : nx_X) (Z : nx_Z) : nx_J Γ X (RX0, cX0_partsFrom, 12, (some .long), "partsFrom", dd) Z (fun r0 : Int64 × nx_M => .inr (some (.long r0.1), (ov M0 r0.2))) (.inl (0, [some (.ref x), some (.int a1), some (.int a2), some (.long a3), none, none, none, none, none, none, none, none], [], (ov M0 D))) (fA_partsFrom_b u rc Γ D x a1 a2 a3) := by
  unfold fA_partsFrom_b
  refine nx_lload_n rfl dX0_partsFrom_0 rfl ?_
  refine nx_lconst dX0_partsFrom_1 rfl ?_
  refine nx_lcmp dX0_partsFrom_2 rfl ?_
  refine nx_if_eq (t := 12) dX0_partsFrom_3 (by decide) rfl ?_ ?_
  · refine nx_lconst dX0_partsFrom_12 rfl ?_
    exact nx_lret dX0_partsFrom_13 rfl rfl
  · refine nx_iload_n rfl dX0_partsFrom_6 rfl ?_
    refine nx_bipush (by decide +kernel) dX0_partsFrom_7 rfl ?_
    refine nx_icmp_le (t := 14) dX0_partsFrom_9 (by decide) rfl ?_ ?_
    · refine nx_aload_n rfl dX0_partsFrom_14 rfl ?_
      refine nx_iload_n rfl dX0_partsFrom_15 rfl ?_
      refine g_callGr [.int a1] (fun r => va_rf r.1) (fun r => r.2) cw_0_27 cv_X0_level (fun r e => cA_level X.2.1 e) rfl rfl (Nat.le_of_ble_eq_true rfl) (Nat.le_trans (Nat.le_of_ble_eq_true rfl : 3 ≤ 6) hd0) dX0_partsFrom_16 rfl (fun p1 => ?_)
      refine nx_guard (fun q2 hq2 => ?_)
      rw [hq2]
      refine nx_astore [some (.ref x), some (.int a1), some (.int a2), some (.long a3), none, some (.ref q2), none, none, none, none, none, none] dX0_partsFrom_19 rfl (Nat.le_of_ble_eq_true rfl) rfl rfl ?_
      refine nx_aload_n rfl dX0_partsFrom_21 rfl ?_
      refine nx_iload_n rfl dX0_partsFrom_22 rfl ?_
      refine g_callGr [.int a2] (fun r => .int r) (fun _ => p1.2) cw_0_108 cv_X0_nextDrawn (fun r e => cA_nextDrawn X.2.1 e) rfl rfl (Nat.le_of_ble_eq_true rfl) (Nat.le_trans (Nat.le_of_ble_eq_true rfl : 2 ≤ 6) hd0) dX0_partsFrom_23 rfl (fun x3 => ?_)
      refine nx_istore [some (.ref x), some (.int a1), some (.int a2), some (.long a3), none, some (.ref q2), some (.int x3), none, none, none, none, none] dX0_partsFrom_26 rfl (Nat.le_of_ble_eq_true rfl) rfl rfl ?_
      refine nx_iload rfl dX0_partsFrom_28 rfl ?_
      refine nx_bipush (by decide +kernel) dX0_partsFrom_30 rfl ?_
      refine nx_icmp_lt (t := 59) dX0_partsFrom_32 (by decide) rfl ?_ ?_
      · refine nx_lload_n rfl dX0_partsFrom_59 rfl ?_
        refine nx_aload_n rfl dX0_partsFrom_60 rfl ?_
        refine g_geti (Or.inl fl_0_93) dX0_partsFrom_61 rfl (fun x4 => ?_)
        refine nx_i2l dX0_partsFrom_64 rfl ?_
        refine nx_lmul dX0_partsFrom_65 rfl ?_
        refine nx_ldc2 wd_998 dX0_partsFrom_66 rfl ?_
        refine nx_ldiv dX0_partsFrom_69 rfl (fun x5 => ?_)
        refine nx_lstore [some (.ref x), some (.int a1), some (.int a2), some (.long a3), none, some (.ref q2), some (.int x3), some (.long x5), none, none, none, none] dX0_partsFrom_70 rfl (Nat.le_of_ble_eq_true rfl) rfl rfl ?_
        refine nx_aload_n rfl dX0_partsFrom_72 rfl ?_
        refine nx_iload_n rfl dX0_partsFrom_73 rfl ?_
        refine nx_iconst dX0_partsFrom_74 rfl ?_
        refine nx_iadd dX0_partsFrom_75 rfl ?_
        refine g_callGr [.int (a1 + (iz 1))] (fun r => va_rf r.1) (fun r => r.2) cw_0_27 cv_X0_level (fun r e => cA_level X.2.1 e) rfl rfl (Nat.le_of_ble_eq_true rfl) (Nat.le_trans (Nat.le_of_ble_eq_true rfl : 3 ≤ 6) hd0) dX0_partsFrom_76 rfl (fun p6 => ?_)
        refine nx_guard (fun q7 hq7 => ?_)
        rw [hq7]
        refine nx_astore [some (.ref x), some (.int a1), some (.int a2), some (.long a3), none, some (.ref q2), some (.int x3), some (.long x5), none, some (.ref q7), none, none] dX0_partsFrom_79 rfl (Nat.le_of_ble_eq_true rfl) rfl rfl ?_
        refine nx_aload rfl dX0_partsFrom_81 rfl ?_
        refine nx_aload rfl dX0_partsFrom_83 rfl ?_
        refine g_callGv [.ref q2] (fun r => r) cw_0_31 cv_X6_become (fun r e => cW_become X.2.1 e) rfl rfl (Nat.le_of_ble_eq_true rfl) (Nat.le_trans (Nat.le_of_ble_eq_true rfl : 2 ≤ 6) hd0) dX0_partsFrom_85 rfl (fun D8 => ?_)
        refine nx_aload rfl dX0_partsFrom_88 rfl ?_
        refine nx_iload rfl dX0_partsFrom_90 rfl ?_
        refine g_callWr [.int x3] (fun r => .int (bz r)) cw_0_116 cv_X6_isLive (fun M1 c f r hw hc e => cW_isLive X.2.1 hw hc e) rfl rfl (Nat.le_of_ble_eq_true rfl) (Nat.le_trans (Nat.le_of_ble_eq_true rfl : 2 ≤ 6) hd0) dX0_partsFrom_92 rfl (fun b9 => ?_)
        refine nx_seq (C1 := fun s11 : nx_M => .inl (106, [some (.ref x), some (.int a1), some (.int a2), some (.long a3), none, some (.ref q2), some (.int x3), some (.long x5), none, some (.ref q7), none, none], [], (ov M0 s11))) ?_ (fun s11 => ?_)
        · refine nx_ifz_eq (t := 106) dX0_partsFrom_95 (by decide) rfl ?_ ?_
          · exact nx_leaf rfl
          · refine nx_aload rfl dX0_partsFrom_98 rfl ?_
            refine nx_iload rfl dX0_partsFrom_100 rfl ?_
            refine g_callWw [.int x3] (fun r => .int r) cw_0_120 cv_X6_fallWithAll (fun M1 c f r hw hc e => cW_fallWithAll X.2.1 hw hc e) rfl rfl (Nat.le_of_ble_eq_true rfl) (Nat.le_trans (Nat.le_of_ble_eq_true rfl : 4 ≤ 6) hd0) dX0_partsFrom_102 rfl (fun p10 => ?_)
            refine nx_pop rfl dX0_partsFrom_105 rfl ?_
            obtain ⟨_, _⟩ := p10
            exact nx_leaf rfl
        exact jA_partsFrom_106k0  x a1 a2 a3 q2 x3 x5 q7 s11 dd hd0 rc dr hdr hrc X Z
      · refine nx_aload rfl dX0_partsFrom_35 rfl ?_
        refine nx_callSv [.ref q2] (fun r => ov M0 (r)) cw_0_111 wd_996 (fun r e => cA_commitAll X.2.1 e) rfl rfl (Nat.le_of_ble_eq_true rfl) (Nat.le_trans (Nat.le_of_ble_eq_true rfl : 6 ≤ 6) hd0) dX0_partsFrom_37 rfl (fun D15 => ?_)
        refine nx_aload rfl dX0_partsFrom_40 rfl ?_
        refine nx_aload_n rfl dX0_partsFrom_42 rfl ?_
        refine g_geti (Or.inl fl_0_90) dX0_partsFrom_43 rfl (fun x16 => ?_)
        refine g_callWr [.int x16] (fun r => .int r) cw_0_57 cv_X6_stateOf (fun M1 c f r hw hc e => cW_stateOf X.2.1 hw hc e) rfl rfl (Nat.le_of_ble_eq_true rfl) (Nat.le_trans (Nat.le_of_ble_eq_true rfl : 2 ≤ 6) hd0) dX0_partsFrom_46 rfl (fun x17 => ?_)
        refine nx_iconst dX0_partsFrom_49 rfl ?_
        refine nx_icmp_ne (t := 57) dX0_partsFrom_50 (by decide) rfl ?_ ?_
        · refine nx_lconst dX0_partsFrom_57 rfl ?_
          exact nx_lret dX0_partsFrom_58 rfl rfl
        · refine nx_lload_n rfl dX0_partsFrom_53 rfl ?_
          refine nx_goto (q := 58) dX0_partsFrom_54 (by decide) ?_
          exact nx_lret dX0_partsFrom_58 rfl rfl
    · refine nx_lconst dX0_partsFrom_12 rfl ?_
      exact nx_lret dX0_partsFrom_13 rfl rfl
def fA_partsFrom : Nat → Nat → nx_G → nx_M → Nat → Int32 → Int32 → Int64 → Option (Int64 × nx_M)
  | 0, _, _, _, _, _, _, _ => none
  | n + 1, u, Γ, D, x, a1, a2, a3 => fA_partsFrom_b u (fA_partsFrom n u Γ) Γ D x a1 a2 a3
theorem cA_partsFrom (n : Nat) (l : Launch) {Γ : nx_G} {M0 : Nat → Option va_E} {u : Nat} {D : nx_M} {x : Nat} {a1 : Int32} {a2 : Int32} {a3 : Int64} {r : Int64 × nx_M} (h : fA_partsFrom n u Γ D x a1 a2 a3 = some r) : nx_Ct l Γ (6 + n) yX0_partsFrom cX0_partsFrom 12 (some .long) [.ref x, .int a1, .int a2, .long a3] (ov M0 D) (some (.long r.1), (ov M0 r.2)) := by
  induction n generalizing l D x a1 a2 a3 r with
  | zero => cases h
  | succ n ih => exact nx_ct (out := fun r0 : Int64 × nx_M => (some (.long r0.1), (ov M0 r0.2))) [some (.ref x), some (.int a1), some (.int a2), some (.long a3), none, none, none, none, none, none, none, none] pn_RX0 h (Nat.le_of_ble_eq_true rfl) rfl (fun X Z _ => jA_partsFrom  u D x a1 a2 a3 (6 + (n + 1)) (Nat.le_add_right _ _) (fA_partsFrom n u Γ) (6 + n) (Nat.le_refl _) (fun l _ _ _ _ _ _ e => ih l e) X Z)
theorem dX0_oddsOf_0 : decode cX0_oddsOf 0 = .ok (.aload_n 0, 1) := by decide +kernel
theorem dX0_oddsOf_1 : decode cX0_oddsOf 1 = .ok (.iload_n 2, 1) := by decide +kernel
theorem dX0_oddsOf_2 : decode cX0_oddsOf 2 = .ok (.putfield 90, 3) := by decide +kernel
theorem dX0_oddsOf_5 : decode cX0_oddsOf 5 = .ok (.aload_n 0, 1) := by decide +kernel
theorem dX0_oddsOf_6 : decode cX0_oddsOf 6 = .ok (.iload_n 3, 1) := by decide +kernel
theorem dX0_oddsOf_7 : decode cX0_oddsOf 7 = .ok (.putfield 93, 3) := by decide +kernel
theorem dX0_oddsOf_10 : decode cX0_oddsOf 10 = .ok (.aload_n 0, 1) := by decide +kernel
theorem dX0_oddsOf_11 : decode cX0_oddsOf 11 = .ok (.aload_n 1, 1) := by decide +kernel
theorem dX0_oddsOf_12 : decode cX0_oddsOf 12 = .ok (.invokevirtual 96, 3) := by decide +kernel
theorem dX0_oddsOf_15 : decode cX0_oddsOf 15 = .ok (.putfield 99, 3) := by decide +kernel
theorem dX0_oddsOf_18 : decode cX0_oddsOf 18 = .ok (.aload_n 0, 1) := by decide +kernel
theorem dX0_oddsOf_19 : decode cX0_oddsOf 19 = .ok (.aload_n 1, 1) := by decide +kernel
theorem dX0_oddsOf_20 : decode cX0_oddsOf 20 = .ok (.invokevirtual 35, 3) := by decide +kernel
theorem dX0_oddsOf_23 : decode cX0_oddsOf 23 = .ok (.pop, 1) := by decide +kernel
theorem dX0_oddsOf_24 : decode cX0_oddsOf 24 = .ok (.aload_n 0, 1) := by decide +kernel
theorem dX0_oddsOf_25 : decode cX0_oddsOf 25 = .ok (.iconst 0, 1) := by decide +kernel
theorem dX0_oddsOf_26 : decode cX0_oddsOf 26 = .ok (.iconst 0, 1) := by decide +kernel
theorem dX0_oddsOf_27 : decode cX0_oddsOf 27 = .ok (.ldc2_w 102, 3) := by decide +kernel
theorem dX0_oddsOf_30 : decode cX0_oddsOf 30 = .ok (.invokevirtual 104, 3) := by decide +kernel
theorem dX0_oddsOf_33 : decode cX0_oddsOf 33 = .ok (.l2i, 1) := by decide +kernel
theorem dX0_oddsOf_34 : decode cX0_oddsOf 34 = .ok (.ireturn, 1) := by decide +kernel
def fA_oddsOf (u : Nat) (Γ : nx_G) (D : nx_M) (x : Nat) (a1 : Nat) (a2 : Int32) (a3 : Int32) : Option (Int32 × nx_M) :=
  (gPut D x 0 3 (.int a2)).bind fun D1 =>
  (gPut D1 x 0 4 (.int a3)).bind fun D2 =>
  (wRd Γ D2 a1 (fun f => fW_liveSeats u f)).bind fun x3 =>
  (gPut D2 x 0 5 (.int x3)).bind fun D4 =>
  (gAt D4 x 0 (fA_copyOf u Γ D4 x a1)).bind fun p5 =>
  (p5.1).bind fun q6 =>
  (gAt p5.2 x 0 (fA_partsFrom 20 u Γ p5.2 x (iz 0) (iz 0) (1000000000 : Int64))).bind fun p7 =>
  some (p7.1.toInt32, p7.2)
set_option maxRecDepth 4000 in
theorem jA_oddsOf {Γ : nx_G} {M0 : Nat → Option va_E} (u : Nat) (D : nx_M) (x : Nat) (a1 : Nat) (a2 : Int32) (a3 : Int32)   (X : nx_X) (Z : nx_Z) : nx_J Γ X (RX0, cX0_oddsOf, 4, (some .int), "oddsOf", 27) Z (fun r0 : Int32 × nx_M => .inr (some (.int r0.1), (ov M0 r0.2))) (.inl (0, [some (.ref x), some (.ref a1), some (.int a2), some (.int a3)], [], (ov M0 D))) (fA_oddsOf u Γ D x a1 a2 a3) := by
  unfold fA_oddsOf
  refine nx_aload_n rfl dX0_oddsOf_0 rfl ?_
  refine nx_iload_n rfl dX0_oddsOf_1 rfl ?_
  refine g_put (Or.inl fl_0_90) ft_0_3 rfl rfl dX0_oddsOf_2 rfl (fun D1 => ?_)
  refine nx_aload_n rfl dX0_oddsOf_5 rfl ?_
  refine nx_iload_n rfl dX0_oddsOf_6 rfl ?_
  refine g_put (Or.inl fl_0_93) ft_0_4 rfl rfl dX0_oddsOf_7 rfl (fun D2 => ?_)
  refine nx_aload_n rfl dX0_oddsOf_10 rfl ?_
  refine nx_aload_n rfl dX0_oddsOf_11 rfl ?_
  refine g_callWr [] (fun r => .int r) cw_0_96 cv_X6_liveSeats (fun M1 c f r hw hc e => cW_liveSeats X.2.1 hw hc e) rfl rfl (Nat.le_of_ble_eq_true rfl) (Nat.le_of_ble_eq_true rfl) dX0_oddsOf_12 rfl (fun x3 => ?_)
  refine g_put (Or.inl fl_0_99) ft_0_5 rfl rfl dX0_oddsOf_15 rfl (fun D4 => ?_)
  refine nx_aload_n rfl dX0_oddsOf_18 rfl ?_
  refine nx_aload_n rfl dX0_oddsOf_19 rfl ?_
  refine g_callGr [.ref a1] (fun r => va_rf r.1) (fun r => r.2) cw_0_35 cv_X0_copyOf (fun r e => cA_copyOf X.2.1 e) rfl rfl (Nat.le_of_ble_eq_true rfl) (Nat.le_of_ble_eq_true rfl) dX0_oddsOf_20 rfl (fun p5 => ?_)
  refine nx_guard (fun q6 hq6 => ?_)
  rw [hq6]
  refine nx_pop rfl dX0_oddsOf_23 rfl ?_
  refine nx_aload_n rfl dX0_oddsOf_24 rfl ?_
  refine nx_iconst dX0_oddsOf_25 rfl ?_
  refine nx_iconst dX0_oddsOf_26 rfl ?_
  refine nx_ldc2 wd_986 dX0_oddsOf_27 rfl ?_
  refine g_callGr [.int (iz 0), .int (iz 0), .long (1000000000 : Int64)] (fun r => .long r.1) (fun r => r.2) cw_0_104 cv_X0_partsFrom (fun r e => cA_partsFrom 20 X.2.1 e) rfl rfl (Nat.le_of_ble_eq_true rfl) (Nat.le_of_ble_eq_true rfl) dX0_oddsOf_30 rfl (fun p7 => ?_)
  refine nx_l2i dX0_oddsOf_33 rfl ?_
  exact nx_iret dX0_oddsOf_34 rfl rfl
theorem cA_oddsOf (l : Launch) {Γ : nx_G} {M0 : Nat → Option va_E} {u : Nat} {D : nx_M} {x : Nat} {a1 : Nat} {a2 : Int32} {a3 : Int32} {r : Int32 × nx_M}  (h : fA_oddsOf u Γ D x a1 a2 a3 = some r) : nx_Ct l Γ 27 yX0_oddsOf cX0_oddsOf 4 (some .int) [.ref x, .ref a1, .int a2, .int a3] (ov M0 D) (some (.int r.1), (ov M0 r.2)) :=
  nx_ct (out := fun r0 : Int32 × nx_M => (some (.int r0.1), (ov M0 r0.2))) [some (.ref x), some (.ref a1), some (.int a2), some (.int a3)] pn_RX0 h (Nat.le_of_ble_eq_true rfl) rfl (fun X Z _ => jA_oddsOf  u D x a1 a2 a3 X Z)
theorem dX7_odds_0 : decode cX7_odds 0 = .ok (.aload_n 0, 1) := by decide +kernel
theorem dX7_odds_1 : decode cX7_odds 1 = .ok (.getfield 37, 3) := by decide +kernel
theorem dX7_odds_4 : decode cX7_odds 4 = .ok (.invokevirtual 110, 3) := by decide +kernel
theorem dX7_odds_7 : decode cX7_odds 7 = .ok (.ifCond .eq 22, 3) := by decide +kernel
theorem dX7_odds_10 : decode cX7_odds 10 = .ok (.iload_n 1, 1) := by decide +kernel
theorem dX7_odds_11 : decode cX7_odds 11 = .ok (.bipush 8, 2) := by decide +kernel
theorem dX7_odds_13 : decode cX7_odds 13 = .ok (.invokestatic 114, 3) := by decide +kernel
theorem dX7_odds_16 : decode cX7_odds 16 = .ok (.ifCond .eq 13, 3) := by decide +kernel
theorem dX7_odds_19 : decode cX7_odds 19 = .ok (.iload_n 2, 1) := by decide +kernel
theorem dX7_odds_20 : decode cX7_odds 20 = .ok (.ifCond .lt 9, 3) := by decide +kernel
theorem dX7_odds_23 : decode cX7_odds 23 = .ok (.iload_n 2, 1) := by decide +kernel
theorem dX7_odds_24 : decode cX7_odds 24 = .ok (.bipush 100, 2) := by decide +kernel
theorem dX7_odds_26 : decode cX7_odds 26 = .ok (.if_icmp .le 5, 3) := by decide +kernel
theorem dX7_odds_29 : decode cX7_odds 29 = .ok (.iconst (-1), 1) := by decide +kernel
theorem dX7_odds_30 : decode cX7_odds 30 = .ok (.ireturn, 1) := by decide +kernel
theorem dX7_odds_31 : decode cX7_odds 31 = .ok (.aload_n 0, 1) := by decide +kernel
theorem dX7_odds_32 : decode cX7_odds 32 = .ok (.getfield 54, 3) := by decide +kernel
theorem dX7_odds_35 : decode cX7_odds 35 = .ok (.aload_n 0, 1) := by decide +kernel
theorem dX7_odds_36 : decode cX7_odds 36 = .ok (.getfield 37, 3) := by decide +kernel
theorem dX7_odds_39 : decode cX7_odds 39 = .ok (.iload_n 1, 1) := by decide +kernel
theorem dX7_odds_40 : decode cX7_odds 40 = .ok (.iload_n 2, 1) := by decide +kernel
theorem dX7_odds_41 : decode cX7_odds 41 = .ok (.invokevirtual 271, 3) := by decide +kernel
theorem dX7_odds_44 : decode cX7_odds 44 = .ok (.ireturn, 1) := by decide +kernel
def fC_odds (u : Nat) (Γ : nx_G) (D : nx_M) (x : Nat) (a1 : Int32) (a2 : Int32) : Option (Int32 × nx_M) :=
  (gR D x 7 5).bind fun q1 =>
  (wRd Γ D q1 (fun f => fW_hasStore u f)).bind fun b2 =>
  if b2 = true then
    (fL_within u a1 (iz 8)).bind fun b3 =>
    if b3 = true then
      if a2 < iz 0 then
        some ((iz (-1)), D)
      else
        if a2 ≤ (iz 100) then
          (gR D x 7 9).bind fun q4 =>
          (gR D x 7 5).bind fun q5 =>
          (gAt D q4 0 (fA_oddsOf u Γ D q4 q5 a1 a2)).bind fun p6 =>
          some (p6.1, p6.2)
        else
          some ((iz (-1)), D)
    else
      some ((iz (-1)), D)
  else
    some ((iz (-1)), D)
set_option maxRecDepth 4000 in
theorem jC_odds {Γ : nx_G} {M0 : Nat → Option va_E} (u : Nat) (D : nx_M) (x : Nat) (a1 : Int32) (a2 : Int32)   (X : nx_X) (Z : nx_Z) : nx_J Γ X (RX7, cX7_odds, 3, (some .int), "odds", 28) Z (fun r0 : Int32 × nx_M => .inr (some (.int r0.1), (ov M0 r0.2))) (.inl (0, [some (.ref x), some (.int a1), some (.int a2)], [], (ov M0 D))) (fC_odds u Γ D x a1 a2) := by
  unfold fC_odds
  refine nx_aload_n rfl dX7_odds_0 rfl ?_
  refine g_getr (Or.inl fl_7_37) dX7_odds_1 rfl (fun q1 => ?_)
  refine g_callWr [] (fun r => .int (bz r)) cw_7_110 cv_X6_hasStore (fun M1 c f r hw hc e => cW_hasStore X.2.1 hw hc e) rfl rfl (Nat.le_of_ble_eq_true rfl) (Nat.le_of_ble_eq_true rfl) dX7_odds_4 rfl (fun b2 => ?_)
  refine nx_ifz_eq (t := 29) dX7_odds_7 (by decide) rfl ?_ ?_
  · refine nx_iconst dX7_odds_29 rfl ?_
    exact nx_iret dX7_odds_30 rfl rfl
  · refine nx_iload_n rfl dX7_odds_10 rfl ?_
    refine nx_bipush (by decide +kernel) dX7_odds_11 rfl ?_
    refine nx_callSr [.int a1, .int (iz 8)] (fun r => .int (bz r)) (fun _ => (ov M0 D)) cw_7_114 wd_442 (fun r e => cL_within X.2.1  e) rfl rfl (Nat.le_of_ble_eq_true rfl) (Nat.le_of_ble_eq_true rfl) dX7_odds_13 rfl (fun b3 => ?_)
    refine nx_ifz_eq (t := 29) dX7_odds_16 (by decide) rfl ?_ ?_
    · refine nx_iconst dX7_odds_29 rfl ?_
      exact nx_iret dX7_odds_30 rfl rfl
    · refine nx_iload_n rfl dX7_odds_19 rfl ?_
      refine nx_if_lt (t := 29) dX7_odds_20 (by decide) rfl ?_ ?_
      · refine nx_iconst dX7_odds_29 rfl ?_
        exact nx_iret dX7_odds_30 rfl rfl
      · refine nx_iload_n rfl dX7_odds_23 rfl ?_
        refine nx_bipush (by decide +kernel) dX7_odds_24 rfl ?_
        refine nx_icmp_le (t := 31) dX7_odds_26 (by decide) rfl ?_ ?_
        · refine nx_aload_n rfl dX7_odds_31 rfl ?_
          refine g_getr (Or.inl fl_7_54) dX7_odds_32 rfl (fun q4 => ?_)
          refine nx_aload_n rfl dX7_odds_35 rfl ?_
          refine g_getr (Or.inl fl_7_37) dX7_odds_36 rfl (fun q5 => ?_)
          refine nx_iload_n rfl dX7_odds_39 rfl ?_
          refine nx_iload_n rfl dX7_odds_40 rfl ?_
          refine g_callGr [.ref q5, .int a1, .int a2] (fun r => .int r.1) (fun r => r.2) cw_7_271 cv_X0_oddsOf (fun r e => cA_oddsOf X.2.1 e) rfl rfl (Nat.le_of_ble_eq_true rfl) (Nat.le_of_ble_eq_true rfl) dX7_odds_41 rfl (fun p6 => ?_)
          exact nx_iret dX7_odds_44 rfl rfl
        · refine nx_iconst dX7_odds_29 rfl ?_
          exact nx_iret dX7_odds_30 rfl rfl
theorem cC_odds (l : Launch) {Γ : nx_G} {M0 : Nat → Option va_E} {u : Nat} {D : nx_M} {x : Nat} {a1 : Int32} {a2 : Int32} {r : Int32 × nx_M}  (h : fC_odds u Γ D x a1 a2 = some r) : nx_Ct l Γ 28 yX7_odds cX7_odds 3 (some .int) [.ref x, .int a1, .int a2] (ov M0 D) (some (.int r.1), (ov M0 r.2)) :=
  nx_ct (out := fun r0 : Int32 × nx_M => (some (.int r0.1), (ov M0 r0.2))) [some (.ref x), some (.int a1), some (.int a2)] pn_RX7 h (Nat.le_of_ble_eq_true rfl) rfl (fun X Z _ => jC_odds  u D x a1 a2 X Z)
