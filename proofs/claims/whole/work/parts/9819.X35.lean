/-! ===== LateStampsLaw.seat: it returns 0 with the value put into out, or catches and returns 1 ===== -/
theorem dLs_0 : decode cL_seat 0 = .ok (.aload_n 3, 1) := by decide +kernel
theorem dLs_1 : decode cL_seat 1 = .ok (.iconst 0, 1) := by decide +kernel
theorem dLs_2 : decode cL_seat 2 = .ok (.aload_n 0, 1) := by decide +kernel
theorem dLs_3 : decode cL_seat 3 = .ok (.iload_n 1, 1) := by decide +kernel
theorem dLs_4 : decode cL_seat 4 = .ok (.iload_n 2, 1) := by decide +kernel
theorem dLs_5 : decode cL_seat 5 = .ok (.invokevirtual 7, 3) := by decide +kernel
theorem dLs_8 : decode cL_seat 8 = .ok (.i2l, 1) := by decide +kernel
theorem dLs_9 : decode cL_seat 9 = .ok (.lastore, 1) := by decide +kernel
theorem dLs_10 : decode cL_seat 10 = .ok (.goto 7, 3) := by decide +kernel
theorem dLs_13 : decode cL_seat 13 = .ok (.astore 4, 2) := by decide +kernel
theorem dLs_15 : decode cL_seat 15 = .ok (.iconst 1, 1) := by decide +kernel
theorem dLs_16 : decode cL_seat 16 = .ok (.ireturn, 1) := by decide +kernel
theorem dLs_17 : decode cL_seat 17 = .ok (.iconst 0, 1) := by decide +kernel
theorem dLs_18 : decode cL_seat 18 = .ok (.ireturn, 1) := by decide +kernel
theorem pn_RL : plainName yL_seat.cls = true := by decide +kernel
abbrev hhS : List (Nat × Nat × Nat × Nat) := [(0, 10, 13, 13)]
theorem wl_1061 : Cond.codeWith yL_seat cL_seat 5 (some .int) hhS ∈ nx_TB := nx_mem 1061 (by decide +kernel) (by decide +kernel)
theorem wl_1062 : Cond.classLink RL 13 nsN ∈ nx_TB := nx_mem 1062 (by decide +kernel) (by decide +kernel)
theorem wl_1063 : Cond.methodLink RL 7 yX7_seat ∈ nx_TB := nx_mem 1063 (by decide +kernel) (by decide +kernel)
theorem wl_1060 : Cond.static yL_seat ∈ nx_TB := nx_mem 1060 (by decide +kernel) (by decide +kernel)
theorem wl_1059 : Cond.methodLink RL 42 yL_seat ∈ nx_TB := nx_mem 1059 (by decide +kernel) (by decide +kernel)
theorem wl_191 : Cond.initialized RL ∈ nx_TB := nx_mem 191 (by decide +kernel) (by decide +kernel)
theorem wl_seatc : Cond.code yX7_seat cX7_seat 3 (some .int) ∈ nx_TB := nx_mem 1066 (by decide +kernel) (by decide +kernel)
theorem wl_seati : Cond.initialized yX7_seat.cls ∈ nx_TB := nx_mem 192 (by decide +kernel) (by decide +kernel)
theorem wl_seatm : Cond.instanceMethod yX7_seat ∈ nx_TB := nx_mem 1064 (by decide +kernel) (by decide +kernel)
theorem wl_seats : Cond.selects yX7_seat.cls yX7_seat yX7_seat ∈ nx_TB := nx_mem 1065 (by decide +kernel) (by decide +kernel)
theorem cw_L_7 : nx_CW RL 7 yX7_seat cX7_seat 3 (some .int) 2 := ⟨wl_seatc, wl_seati, ⟨by decide +kernel, by decide +kernel⟩, by decide +kernel, Nat.le_of_ble_eq_true rfl, Or.inl wl_1063⟩
theorem cv_L_seat : nx_CV yX7_seat 7 := ⟨wl_seatm, wl_seats, TX7, 12, rfl⟩
theorem wsW9 {s : State} {as : Array Value} {w0 : Cond} (h : ∀ w ∈ nx_TB, w.before as s = true) (hc : w0 ∈ nx_TB) : ∀ w ∈ (w0 :: nx_TB), ∀ (a' : Array Value) (U : State), s.WarmedH U.vm → w.before a' U = true := by
  intro w hw a' U hW
  have hm : w ∈ nx_TB := by
    rcases List.mem_cons.mp hw with rfl | h
    · exact hc
    · exact h
  exact word_at hW (good_of_word (List.mem_filter.mp hm).2) (h w hm)
abbrev YS : nx_Y := (RL, cL_seat, 5, some .int, "seat", 12)
abbrev seL (x : Nat) (a1 a2 : Int32) : List (Option Value) := [some (.ref x), some (.int a1), some (.int a2), some (.ref (x + 33)), none]
abbrev seA (x : Nat) (a1 a2 : Int32) : List Value := [.ref x, .int a1, .int a2, .ref (x + 33)]
def nx_CtW (l : Launch) (Γ : nx_G) (as : List Value) (M : nx_M) (q : Option Value × nx_M) : Prop := (M.2.1 ≤ q.2.2.1 ∧ M.2.2 ≤ q.2.2.2) ∧ Met l yL_seat (.codeWith yL_seat cL_seat 5 (some .int) hhS :: nx_TB) (nx_rm 12 M q.2) (nx_PcT Γ as M) (nx_Qc Γ q.1 q.2) (q.2.2.1 - M.2.1) (q.2.2.2 - M.2.2) (nx_A Γ)
theorem sL_A1 {Γ : nx_G} {X : nx_X} {Z : nx_Z} {x u : Nat} {a1 a2 v : Int32} {D : nx_M} {g : mS} {f : Nat → Int64} (h : fC_seat u Γ D x a1 a2 = some (some v)) (hfr : fr19 x D) (hob : ∃ fs, (LM Γ x D g f).1 x = some (.inr (7, fs))) :
    nx_J Γ X YS Z (fun _ : Unit => .inr (some (.int (iz 0)), LM Γ x D g (vp_updL f 0 v.toInt64))) (.inl (0, seL x a1 a2, [], LM Γ x D g f)) (some ()) := by
  obtain ⟨fs, hob⟩ := hob
  refine nx_aload_n rfl dLs_0 rfl ?_
  refine nx_iconst dLs_1 rfl ?_
  refine nx_aload_n rfl dLs_2 rfl ?_
  refine nx_iload_n rfl dLs_3 rfl ?_
  refine nx_iload_n rfl dLs_4 rfl ?_
  refine nx_callV (oc := some ()) (kk := fun _ => some ()) (out := fun _ => (some (.int v), LM Γ x D g f)) (b := x) (ci := 7) (fs := fs) (st := [.int (iz 0), .ref (x + 33)]) [.int a1, .int a2] cw_L_7 cv_L_seat (fun _ _ => cC_seat X.2.1 (M0 := lwM Γ x g f) h) hob rfl rfl (Nat.le_of_ble_eq_true rfl) (Nat.le_of_ble_eq_true rfl) dLs_5 rfl (fun _ => ?_)
  refine nx_i2l dLs_8 rfl ?_
  refine x_last (n := 1) (f := f) (LM_out hfr) (by decide +kernel) dLs_9 rfl ?_
  have e : nx_put (LM Γ x D g f) (x + 33) (.inl (Γ.2.2.2.1 1, 1, .inr (.inl (vp_updL f (iz 0).toNatClampNeg v.toInt64)))) = LM Γ x D g (vp_updL f 0 v.toInt64) := LM_po hfr
  rw [e]
  refine nx_goto (q := 17) dLs_10 (by decide) ?_
  refine nx_iconst dLs_17 rfl ?_
  exact nx_iret dLs_18 rfl rfl
/-- the start of a body of the law's seat -/
theorem sL_0 {l : Launch} {Γ : nx_G} {x : Nat} {a1 a2 : Int32} {M : nx_M} {q : Option Value × nx_M} (hq : M.2.1 ≤ q.2.2.1 ∧ M.2.2 ≤ q.2.2.2)
    (j : ∀ (X : nx_X), X.2.1 = l → nx_K Γ X YS (M, q) → nx_Th Γ (nx_s X) → (nx_c X).exceptionTable.toList = tableOf hhS → nx_Wc Γ X YS (M, q) (.inl (0, seL x a1 a2, [], M))) : nx_CtW l Γ (seA x a1 a2) M q := by
  refine ⟨hq, va_MetW (cc := cL_seat) (maxL := 5) (ret := some .int) (hh := hhS) pn_RL rfl ?_⟩
  intro p e s m args below meth c s₁ B hml hv
  obtain ⟨⟨rfl, hH, hE⟩, hTh⟩ := hv
  have hts := atoms_spec (ws := (Cond.codeWith yL_seat cL_seat 5 (some .int) hhS :: nx_TB)) B.pre
  have hown : s.vm.findClass yL_seat.cls = some m.cls := findClass_of_methodNamed B.named
  have ht : c.exceptionTable.toList = tableOf hhS := vx_table (x := yL_seat) B (hts _ List.mem_cons_self)
  have w := j (p, l, e, (headSpec (Cond.codeWith yL_seat cL_seat 5 (some .int) hhS :: nx_TB) (nx_rm 12 M q.2)).room, s, m, (seA x a1 a2).toArray, below, meth, c, MQ below (nx_Qc Γ q.1 q.2) (seA x a1 a2).toArray s (q.2.2.1 - M.2.1) (q.2.2.2 - M.2.2) (nx_A Γ)) rfl
    ⟨B.exec, B.bytes, B.returns, B.notSynchronized, hml, hown, (name_of_methodNamed B.named B.method).1, fun w hw => hts w (List.mem_cons_of_mem _ hw), hE, rfl, fun _ h => h⟩ hTh ht
  obtain ⟨-, -, w⟩ := w (Nat.le_refl _) (Nat.le_refl _)
  rw [lg_entry_eq]
  have w4 := w s.heap [] _ hH (fun _ h => by cases h) (nx_entry (seA x a1 a2) (nL := 5) (Nat.le_of_ble_eq_true rfl))
  have y1 : M.2.1 - M.2.1 = 0 := Nat.sub_self _
  have y2 : M.2.2 - M.2.2 = 0 := Nat.sub_self _
  dsimp only at w4
  rw [y1, y2] at w4
  exact w4
theorem sL_A (l : Launch) {Γ : nx_G} {x u : Nat} {a1 a2 v : Int32} {D : nx_M} {g : mS} {f : Nat → Int64} (h : fC_seat u Γ D x a1 a2 = some (some v)) (hfr : fr19 x D) (hob : ∃ fs, (LM Γ x D g f).1 x = some (.inr (7, fs))) :
    nx_CtW l Γ (seA x a1 a2) (LM Γ x D g f) (some (.int (iz 0)), LM Γ x D g (vp_updL f 0 v.toInt64)) :=
  sL_0 ⟨Nat.le_refl _, Nat.le_refl _⟩ (fun X _ K _ _ => (sL_A1 h hfr hob () rfl).2 K rfl)
theorem sL_B (l : Launch) (hl : l.stackTraces = false) {Γ : nx_G} {x u : Nat} {a1 a2 : Int32} {D : nx_M} {g : mS} {f : Nat → Int64} (h : fC_seat u Γ D x a1 a2 = some none) (hob : ∃ fs, (LM Γ x D g f).1 x = some (.inr (7, fs))) :
    nx_CtW l Γ (seA x a1 a2) (LM Γ x D g f) (some (.int (iz 1)), mo1 (LM Γ x D g f)) := by
  obtain ⟨b, hb⟩ := seatX_n h
  obtain ⟨fs, hob⟩ := hob
  have hV := vC_seat l hl (M0 := lwM Γ x g f) hb
  obtain ⟨M, hM⟩ : ∃ M, M = LM Γ x D g f := ⟨_, rfl⟩
  have hV' : vx_Met l yX7_seat (.code yX7_seat cX7_seat 3 (some .int) :: nx_TB) (nx_rm 8 M (mo1 M)) (nx_PcT Γ [.ref x, .int a1, .int a2] M) (nx_Qc Γ none (noM M)) (xC_seat Γ M) 1 6 (nx_A Γ) := by
    rw [hM]
    exact hV
  rw [← hM] at hob ⊢
  refine sL_0 ⟨Nat.le_succ _, Nat.le_add_right _ _⟩ (fun X hX K hTh ht => ?_)
  have z1 : M.2.1 + 1 - M.2.1 = 1 := Nat.add_sub_cancel_left _ _
  have z2 : M.2.2 + 6 - M.2.2 = 6 := Nat.add_sub_cancel_left _ _
  have y1 : M.2.1 - M.2.1 = 0 := Nat.sub_self _
  have y2 : M.2.2 - M.2.2 = 0 := Nat.sub_self _
  have j1 : nx_J Γ X YS (M, some (.int (iz 1)), mo1 M) (fun _ : Unit => .inl (5, seL x a1 a2, [.int a2, .int a1, .ref x, .int (iz 0), .ref (x + 33)], M)) (.inl (0, seL x a1 a2, [], M)) (some ()) := by
    refine nx_aload_n rfl dLs_0 rfl ?_
    refine nx_iconst dLs_1 rfl ?_
    refine nx_aload_n rfl dLs_2 rfl ?_
    refine nx_iload_n rfl dLs_3 rfl ?_
    refine nx_iload_n rfl dLs_4 rfl ?_
    exact nx_leaf rfl
  have j2 : ∀ q9 : Nat, nx_J Γ X YS (M, some (.int (iz 1)), mo1 M) (fun _ : Unit => .inr (some (.int (iz 1)), mo1 M)) (.inl (13, seL x a1 a2, [.ref q9], mo1 M)) (some ()) := by
    intro q9
    refine nx_astore [some (.ref x), some (.int a1), some (.int a2), some (.ref (x + 33)), some (.ref q9)] dLs_13 rfl (Nat.le_of_ble_eq_true rfl) rfl rfl ?_
    refine nx_iconst dLs_15 rfl ?_
    exact nx_iret dLs_16 rfl rfl
  refine (j1 () rfl).2 K (fun _ _ => ⟨Nat.le_succ _, Nat.le_add_right _ _, fun H locs Lv hH hl2 hL => ?_⟩)
  have hx2 := K
  obtain ⟨hx, hbc, hr, hlk, hml, hown, hnm, hts, hE, hR, hQ⟩ := K
  have hpre : PreV (nx_s X) H yX7_seat.cls x (nx_PcT Γ [.ref x, .int a1, .int a2] M) [.int a1, .int a2] := ⟨nx_blindT, va_recv hE.1 (hH.P hob) (q := (yX7_seat.cls, TX7, 12)) rfl (q0 := 0) rfl, fun U hU hWm => ⟨⟨rfl, by rw [hU]; exact hH, hE.warm hWm⟩, hTh.warm hWm⟩⟩
  have c1 : (nx_rm 8 M (mo1 M)).frames + 1 ≤ (nx_R X).frames := by rw [hR]; exact Nat.le_of_ble_eq_true rfl
  have c2 : 8 + (3 + 11) + (nx_rm 8 M (mo1 M)).locals ≤ (nx_R X).locals := by rw [hR]; exact Nat.le_of_ble_eq_true rfl
  have c3 : M.2.1 - M.2.1 + 1 ≤ (nx_R X).cells ∧ M.2.2 - M.2.2 + 6 ≤ (nx_R X).slots := by
    rw [hR]
    show M.2.1 - M.2.1 + 1 ≤ M.2.1 + 1 - M.2.1 ∧ M.2.2 - M.2.2 + 6 ≤ M.2.2 + 6 - M.2.2
    omega
  obtain ⟨w1, w2, w3, w4, w5, w6⟩ := cw_L_7
  subst hX
  have hrun := vx_runV (Ts := nx_TB) (own := RL) (C := yX7_seat.cls) (nL := 5) (mc := 1) (ms := 6) (n := 2) (index := 7) (cells := M.2.1 - M.2.1) (slots := M.2.2 - M.2.2) (locs := locs) (below := X.2.2.2.2.2.2.2.1) (meth := nx_me X) (e := X.2.2.1) (rest := [.int (iz 0), .ref (x + 33)]) (g := F0 (nx_m X) 5 Lv [.int a2, .int a1, .ref x, .int (iz 0), .ref (x + 33)]) ⟨hx, hbc, hml, hown, hts⟩ hV' ⟨⟨z1, z2, c1, c2, nx_wsW hts w1, List.mem_cons_self, hts _ w1, hts _ w2, w3, nx_plen w4, hts _ wl_1063⟩, hts _ wl_seatm, hts _ wl_seats⟩ hpre rfl rfl hL.1 rfl (nx_catW (Nat.le_of_ble_eq_true rfl)) dLs_5 c3
  intro T hT X0
  rcases hrun T hT X0 with ⟨v, st₀, t, T', Lc, h0, X', hLc, e1, e2, ⟨_, hH'⟩, stp⟩ | ⟨q9, st₀, t, T', Lc, E, ce, h0, X', hLc, e1, e2, ⟨hE9, hHm⟩, hce, hcv, hcl, stp⟩
  · exact (noM_no hH').elim
  · subst hE9
    have hHm' : nx_Hold Γ (mo1 M) T'.heap := by rw [e1]; exact hHm
    obtain ⟨-, -, w13⟩ := (j2 q9 () rfl).2 hx2 rfl (Nat.le_succ _) (Nat.le_add_right _ _)
    have k13 := w13 T'.heap (locs ++ Lc) Lv hHm' (fun z hz => by
      rcases List.mem_append.mp hz with h | h
      · exact hl2 z h
      · exact hLc z h) hL
    have kk : nx_W X T'.heap (locs ++ Lc) (M.2.1 - M.2.1 + 1) (M.2.2 - M.2.2 + 6) (F0 (nx_m X) 13 Lv [.ref q9]) := by
      have k13' : nx_W X T'.heap (locs ++ Lc) (M.2.1 + 1 - M.2.1) (M.2.2 + 6 - M.2.2) (F0 (nx_m X) 13 Lv [.ref q9]) := k13
      rw [z1, z2] at k13'
      rw [y1, y2]
      exact k13'
    have hc := vx_catch (pc := 5) (rest := [.int (iz 0), .ref (x + 33)]) (own := RL) (name := nsN) (E := nsN) (ce := ce) (q := q9) hown [] ⟨0, 10, 13, 13⟩ [] (ht.trans rfl) (fun z hz => nomatch hz) (by decide) (by decide) (hts _ wl_1062) (va_Nw.use rfl (hTh.1 _ th_mem.2.2.2)) (by rw [e1]; exact hce) hcv hcl kk
    obtain ⟨t2, a9, b9⟩ := hc T' rfl X'
    exact ⟨t2, stp.trans a9, b9⟩
