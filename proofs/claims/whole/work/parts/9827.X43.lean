/-! ===== the law's start ===== -/
theorem wl_al : Cond.arrayClass .long ∈ nx_TB := List.mem_filter.mpr ⟨by decide +kernel, by decide +kernel⟩
abbrev dfl7 : List Value := [.null, .null, .null, .null, .int 0, .null, .null, .null, .int 0, .null, .null, .null]
theorem cnl_7 : nx_CN RL 8 7 dfl7 12 := ⟨RX7, TX7, tyX7, rfl, us_7, tyX7_ok, wl_l8, ins_7, wl_i7, fun j hj => match j, hj with | 0, _ => rfl | 1, _ => rfl | 2, _ => rfl | 3, _ => rfl | 4, _ => rfl | 5, _ => rfl | 6, _ => rfl | 7, _ => rfl | 8, _ => rfl | 9, _ => rfl | 10, _ => rfl | 11, _ => rfl | j + 12, h => absurd h (by omega)⟩
theorem cnl_8 : nx_CN RL 16 8 mDf 27 := ⟨RX8, TX8, tyX8, rfl, us_8, tyX8_ok, wl_l16, ins_8, wl_i8, fun j hj => match j, hj with | 0, _ => rfl | 1, _ => rfl | 2, _ => rfl | 3, _ => rfl | 4, _ => rfl | 5, _ => rfl | 6, _ => rfl | 7, _ => rfl | 8, _ => rfl | 9, _ => rfl | 10, _ => rfl | 11, _ => rfl | 12, _ => rfl | 13, _ => rfl | 14, _ => rfl | 15, _ => rfl | 16, _ => rfl | 17, _ => rfl | 18, _ => rfl | 19, _ => rfl | 20, _ => rfl | 21, _ => rfl | 22, _ => rfl | 23, _ => rfl | 24, _ => rfl | 25, _ => rfl | 26, _ => rfl | j + 27, h => absurd h (by omega)⟩
abbrev m00 (x : Nat) : nx_M := ov (fun _ => none) (lm x [] 0)
abbrev slC : Nat := 0 + 12 + (244 + 13 + 4 + 66 + 515 + 43 + 515 + 19 + 1 + 4)
abbrev slM : Nat := slC + 27 + (240 + 3 + 6 + 3 + 320 + 5 + 820 + 4 + 37 + 32800 + 20448 + 8 + 820)
section LAWB
variable {Γ : nx_G} {b L x : Nat} {xs : Nat → Int32}
theorem L_start (hL : L ≤ 3072) : ∃ Me : nx_M, Me.2.1 ≤ x + 34 + 512 + 114 ∧ Me.2.2 ≤ slM + 1 + 6 * 512 + 27559 ∧
    ∀ (X : nx_X) (Z : nx_Z) (nm : String), LX Γ X b L xs → nx_J Γ X (YL nm) Z (fun _ : Unit => .inr (some (.int 1), Me)) (.inl (0, [some (.ref b), none, none, none, none, none, none], [], m00 x)) (some ()) := by
  obtain ⟨Me, m1, m2, jm⟩ := L_loop (Γ := Γ) (b := b) (x := x) (xs := xs) hL 512 0 (x + 34) (slM + 1) ((lm x (L19 Γ x) slM).1, x + 34, slM + 1) g00 (fun _ => 0) (INV_0 Γ x slM (slM + 1)) (by omega) (by omega)
  refine ⟨Me, m1, m2, fun X Z nm hX => ?_⟩
  refine nx_new cnl_7 dL_0 rfl ?_
  rw [ov_al, lm_al]
  show nx_J Γ X (YL nm) Z _ (.inl (3, [some (.ref b), none, none, none, none, none, none], [.ref x], ov (fun _ => none) (lm x [.inr (7, dfl7)] (0 + 12)))) (some ())
  refine nx_dup rfl dL_3 rfl ?_
  refine nx_callI (oc := some ()) (kk := fun _ => some ()) (mem := fun _ => ov (fun _ => none) (lm x (L19 Γ x) slC)) (b := x) (st := [.ref x]) [] cwl_C_init wlm_C_init rfl (fun _ _ => cC_init X.2.1 (M0 := fun _ => none) (u := 40000) C_init) rfl rfl (Nat.le_of_ble_eq_true rfl) (Nat.le_of_ble_eq_true rfl) dL_4 rfl (fun _ => ?_)
  refine nx_astore_n [some (.ref b), some (.ref x), none, none, none, none, none] dL_7 rfl (Nat.le_of_ble_eq_true rfl) rfl rfl ?_
  refine nx_new cnl_8 dL_8 rfl ?_
  rw [ov_al, lm_al]
  show nx_J Γ X (YL nm) Z _ (.inl (11, [some (.ref b), some (.ref x), none, none, none, none, none], [.ref (x + 19)], ov (fun _ => none) (lm x (L19 Γ x ++ [.inr (8, mDf)]) (slC + 27)))) (some ())
  refine nx_dup rfl dL_11 rfl ?_
  refine nx_callI (oc := some ()) (kk := fun _ => some ()) (mem := fun _ => ov (fun _ => none) (lm x (L19 Γ x ++ L14 Γ (x + 19)) slM)) (b := x + 19) (st := [.ref (x + 19)]) [] cwl_M_init wlm_M_init rfl (fun _ _ => cM_init X.2.1 (M0 := fun _ => none) (u := 40000) (M_init (L := L19 Γ x))) rfl rfl (Nat.le_of_ble_eq_true rfl) (Nat.le_of_ble_eq_true rfl) dL_12 rfl (fun _ => ?_)
  refine nx_astore_n [some (.ref b), some (.ref x), some (.ref (x + 19)), none, none, none, none] dL_15 rfl (Nat.le_of_ble_eq_true rfl) rfl rfl ?_
  refine nx_iconst dL_16 rfl ?_
  refine nx_newJ (N := 1) wl_al (by decide +kernel) (by decide +kernel) (by decide) dL_17 rfl ?_
  rw [ov_al]
  show nx_J Γ X (YL nm) Z _ (.inl (19, [some (.ref b), some (.ref x), some (.ref (x + 19)), none, none, none, none], [.ref (x + 33)], ov (fun _ => none) (nx_al (lm x (L19 Γ x ++ L14 Γ (x + 19)) slM) (outE Γ (fun _ => 0)) 1))) (some ())
  rw [LM_0]
  refine nx_astore_n [some (.ref b), some (.ref x), some (.ref (x + 19)), some (.ref (x + 33)), none, none, none] dL_19 rfl (Nat.le_of_ble_eq_true rfl) rfl rfl ?_
  refine nx_iconst dL_20 rfl ?_
  refine nx_istore (lls b x 0) dL_21 rfl (Nat.le_of_ble_eq_true rfl) rfl rfl ?_
  exact jm X Z nm hX
end LAWB
theorem hold_0 {Γ : nx_G} {s : State} (h1 : Γ.1 = s.heap.size) (h2 : Γ.2.1 = s.heap) : nx_Hold Γ (m00 Γ.1) s.heap := by
  refine ⟨h1.symm, Nat.le_refl _, fun a e h => ?_, fun q _ => by rw [h2]⟩
  exfalso
  have e0 : (m00 Γ.1).1 a = none := by
    show (match (lm Γ.1 [] 0).1 a with | some e => some e | none => none) = none
    have e1 : (lm Γ.1 [] 0).1 a = none := by
      show (if a < Γ.1 then none else ([] : List va_E)[a - Γ.1]?) = none
      split
      · rfl
      · rfl
    rw [e1]
  rw [e0] at h
  cases h
theorem whole_start {p : Program} {e : Env} {s : State} {m : MethodId} {below : List Frame} {meth : Method} {c : Code} (l : Launch) (hflags : l.flags = flags0) {b L : Nat} {xs : Nat → Int32} (hL : L ≤ 3072) (C0 : lw_At p s m meth c b L xs) : W p l e room_1 s m #[Value.ref b] below meth c s.heap [] 0 0 (lw_Z below #[Value.ref b] s) (entryFrame m ([Value.ref b] : List Value).toArray 7) := by
  obtain ⟨hx, hb, hr, hml, hown, hts, hX, hbl, hlk, hg⟩ := C0
  obtain ⟨Γ, g1, g2, hE⟩ := K_env hts hg
  have hTh := K_th g1 g2 hts hg
  have hst : l.stackTraces = false := by
    unfold Launch.stackTraces
    rw [hflags]
    decide +kernel
  obtain ⟨Me, m1, m2, jm⟩ := L_start (Γ := Γ) (b := b) (x := Γ.1) (xs := xs) hL
  have c1 : Me.2.1 - Γ.1 ≤ 601024 := by omega
  have c2 : Me.2.2 - 0 ≤ 7293034 := by
    have : slM = 56977 := by decide
    omega
  refine W_room (R' := nx_rm 2048 (m00 Γ.1) Me) (Nat.le_of_ble_eq_true rfl) c1 c2 (Nat.le_of_ble_eq_true rfl) ?_
  have hK : nx_K Γ (p, l, e, nx_rm 2048 (m00 Γ.1) Me, s, m, #[Value.ref b], below, meth, c, lw_Z below #[Value.ref b] s) (YL meth.name) (m00 Γ.1, some (.int 1), Me) :=
    ⟨hx, hb, hr, hlk, hml, hown, rfl, fun w hw => hts w (List.mem_filter.mp hw).1, hE, rfl, fun t h => lw_end h (by rw [g1]; exact Nat.le_refl _) c1 c2⟩
  obtain ⟨-, w⟩ := jm (p, l, e, nx_rm 2048 (m00 Γ.1) Me, s, m, #[Value.ref b], below, meth, c, lw_Z below #[Value.ref b] s) (m00 Γ.1, some (.int 1), Me) meth.name ⟨⟨by rw [g1]; exact hbl, by rw [g2]; exact hX⟩, hTh, hst⟩ () rfl
  obtain ⟨-, -, w⟩ := w hK rfl (Nat.le_refl _) (Nat.le_refl _)
  have h0 := nx_entry [Value.ref b] (nL := 7) (Nat.le_of_ble_eq_true rfl)
  have e0 : nx_L0 7 [Value.ref b] = [some (.ref b), none, none, none, none, none, none] := rfl
  rw [e0] at h0
  rw [lg_entry_eq]
  have w4 := w s.heap [] _ (hold_0 g1 g2) (fun _ h => by cases h) h0
  have y1 : (m00 Γ.1).2.1 - (m00 Γ.1).2.1 = 0 := Nat.sub_self _
  have y2 : (m00 Γ.1).2.2 - (m00 Γ.1).2.2 = 0 := Nat.sub_self _
  dsimp only at w4
  rw [y1, y2] at w4
  exact w4
