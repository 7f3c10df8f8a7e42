/-! ===== retry ===== -/
section HAND2
variable {u : Nat} {Γ : nx_G} {x A B : Nat} {Dm : nx_M} {g : mS}
theorem B_retry (a : Int32) (hu2 : 40000 ≤ u) (hI : INV Γ x A B Dm g) : ∃ r Dm' g', fC_retry u Γ Dm x a = some (r, Dm') ∧ fM_retry u g a = some (r, g') ∧ INV Γ x A B Dm' g' := by
  have hu : 1000 ≤ u := by omega
  obtain ⟨c, hc, hb, hs⟩ := hI
  have href : ∀ i, i < 4 → fW_refusal u (csW c (x + 9)) (nI 7) a (iz (-1)) (iz (-1)) = some (nI i) → fM_whyRetry u g a = some (nI i) → ∃ r Dm' g', fC_retry u Γ Dm x a = some (r, Dm') ∧ fM_retry u g a = some (r, g') ∧ INV Γ x A B Dm' g' := by
    intro i hi e1 e2
    obtain ⟨D', e3, h3⟩ := (C_isRef hc e1).2 i hi rfl
    refine ⟨iz (-1), D', _, ?_, ?_, _, h3, hb.ref i, ref_st hs⟩
    · unfold fC_retry
      simp only [izN]
      rw [hc.1.at0, e3]
      rfl
    · unfold fM_retry
      rw [e2, Option.bind_some, M_refu u g hi]
      rfl
  rcases hs with hf | ⟨R, D, T, hst⟩
  · refine href 0 (by omega) (by rw [hf.1]; exact Wf_refusal u _ _ _ _) ?_
    unfold fM_whyRetry
    rw [Mf_isThere u hf.2.1]
    rfl
  · have hrm := st2.rm hst hb.2.2.2
    obtain ⟨⟨w0, hw⟩, _, hE⟩ := hst.2.1
    have e1 := W_refusal hu hw hE.1.1 (kd := 7) (by omega) a (iz (-1)) (iz (-1))
    have e2 := M_whyRetry hu hrm hE.1.1 a (iz (-1)) (iz (-1))
    rcases ref_rng (R := R) (T := T) 7 a (iz (-1)) (iz (-1)) with hr | ⟨i, hi, hr⟩
    · obtain ⟨s, hs8, rfl, h4, hck⟩ := ref7 hr
      obtain ⟨c1, D1, g1, k1, k2, k3, k4, k5, _⟩ := K2 hu2 hc hb hst
      have hrm1 := st2.rm k5 k4.2.2.2
      obtain ⟨⟨w1, hw1⟩, _, _⟩ := k5.2.1
      have hd := hE.2.1 s hs8
      have hck' := ck_le hE.1 hck
      obtain ⟨ra, ea, ra1, ra2⟩ := W_redoAll hu hw1 hE.1 hs8 hd (lv4 h4) hck'
      obtain ⟨rb, eb, rb1, ab, rb2⟩ := M_retryNow hu hrm1 hE.1 hs8 hd (lv4 h4) hck'
      have hmE : mE g1 rb.2 := (mE.row (j := 9) (by omega)).tr rb2.1.mE
      have h15 : rb.2.1 0 15 = nI 0 := by
        rw [rb2.1.2.1 15 (by omega), mRow_n (by omega)]
        exact k4.2.2.2
      obtain ⟨q1, q2, q3⟩ := stoI.act k3 k4 k5 ⟨w1, ra2⟩ hmE h15 rb2.2.2.2 (hE.retry hs8 h4 hck)
      refine ⟨ra.1, _, rb.2, ?_, ?_, _, q1, q2, Or.inr ⟨R, _, _, q3⟩⟩
      · unfold fC_retry
        simp only [izN]
        rw [hc.1.at0, (C_isRef hc (e1.trans (congrArg some hr))).1 rfl]
        simp only [Option.bind_some, Bool.false_eq_true, if_false]
        rw [hc.1.r6, Option.bind_some, hc.1.r5, Option.bind_some, hc.1.at11, k1, Option.bind_some, k3.1.r5, Option.bind_some, k3.wWr WA_9 (F := fun f => fW_redoAll u f (nI s)) ea]
        rfl
      · unfold fM_retry
        rw [e2, hr, Option.bind_some]
        unfold fM_isRefused
        simp only [if_true, k2, Option.bind_some, Bool.false_eq_true, if_false]
        rw [eb]
        simp only [Option.bind_some]
        rw [ra1, rb1]
    · rw [hr] at e1 e2
      exact href i hi e1 e2
/-! ===== undo, image, back ===== -/
theorem M_undo_c {u : Nat} (hu : 1000 ≤ u) (g : mS) {m : Nat} (hm : m < 40) (h19 : g.1 0 19 = nI m) : ok (nx_iter u fM_undo_21 (nI 0, g)) (fun g' => ∃ a, g' = mRow g 7 a ∧ ∀ k, k < 820 → a k = g.1 10 (820 * m + k)) := by
  refine it_inv (fun i s => s.1 = nI i ∧ ∃ a, s.2 = mRow g 7 a ∧ ∀ k, k < i → a k = g.1 10 (820 * m + k)) 820 (fun i s hi hI => ?_) (fun s hI => ?_) (i := 0) ⟨rfl, g.1 7, mRow_i.symm, fun k hk => by omega⟩ (by omega) (by omega)
  · obtain ⟨e1, a, e2, h2⟩ := hI
    have e10 : (mRow g 7 a).1 10 = g.1 10 := mRow_n (by omega)
    have e0 : (mRow g 7 a).1 0 = g.1 0 := mRow_n (by omega)
    unfold fM_undo_21
    rw [e1, e2]
    simp (disch := omega) only [leI, izN, rd10, e10, e0, h19, mulI, nI_add, mWr7, mRow_s, mRow_m, Option.bind_some]
    rw [if_neg (by omega)]
    refine ok.ret ⟨rfl, upd a i (g.1 10 (820 * m + i)), rfl, fun k hk => ?_⟩
    by_cases e : k = i
    · rw [upd_e e, e]
    · rw [upd_n e]; exact h2 k (by omega)
  · obtain ⟨e1, a, e2, h2⟩ := hI
    unfold fM_undo_21
    rw [e1]
    simp (disch := omega) only [leI, izN]
    rw [if_pos (by omega)]
    exact ok.ret ⟨a, e2, h2⟩
theorem B_undo (hu2 : 40000 ≤ u) (hI : INV Γ x A B Dm g) : ∃ r Dm' g', fC_undo u Γ Dm x = some (r, Dm') ∧ fM_undo u g = some (r, g') ∧ INV Γ x A B Dm' g' := by
  obtain ⟨c, hc, hb, hs⟩ := hI
  have h0 : csI c 9 = nI 0 → g.1 0 19 = nI 0 → ∃ r Dm' g', fC_undo u Γ Dm x = some (r, Dm') ∧ fM_undo u g = some (r, g') ∧ INV Γ x A B Dm' g' := by
    intro e1 e2
    refine ⟨iz (-1), Dm, g, ?_, ?_, c, hc, hb, hs⟩
    · unfold fC_undo fQ_bringBack
      rw [hc.1.r6, Option.bind_some, hc.1.r5, Option.bind_some, hc.1.at11, hc.1.q2, e1]
      rfl
    · unfold fM_undo
      rw [e2]
      rfl
  rcases hs with hf | ⟨R, D, T, hst⟩
  · exact h0 hf.2.2.2.2.1 hf.2.2.2.2.2.1
  · obtain ⟨s1, s2, ⟨m, nx, m1, m2, m3, m4, m5, m6⟩, s4⟩ := hst
    by_cases cm : m = 0
    · rw [cm] at m3 m4
      exact h0 m3 m4
    · obtain ⟨a, D', T', qa, ⟨⟨w0, hw⟩, hm, hE⟩⟩ := m6 (m - 1) (by omega)
      have el : ∃ l, l < 40 ∧ (nx + 40 - m + (m - 1)) % 40 = l ∧ (if nI nx ≤ nI 0 then some (nI 39) else some (nI nx - nI 1)) = some (nI l) := by
        by_cases c0 : nx = 0
        · exact ⟨39, by omega, by omega, by rw [if_pos (by rw [leI (by omega) (by omega)]; omega)]⟩
        · exact ⟨nx - 1, by omega, by omega, by rw [if_neg (by rw [leI (by omega) (by omega)]; omega), subI (by omega)]⟩
      obtain ⟨l, l40, el1, el2⟩ := el
      rw [el1] at qa
      have wa : isWA x c a := WA_q (Or.inl ⟨rfl, l40⟩) qa
      have hc1 := hc.wr WA_9 (va_cpy (csW c a) (csW c (x + 9)) 0 0 514)
      obtain ⟨D2, e2, hm2, hd2⟩ := hc1.1.p8 (nI l)
      have hc2 := hc1.same hm2 rfl rfl (cI_n (by omega)) hd2
      obtain ⟨D3, e3, hm3, hd3⟩ := hc2.1.p9 (nI (m - 1))
      have hc3 := hc2.same hm3 rfl rfl (cI_n (by omega)) hd3
      obtain ⟨g2, eg, b, rfl, hb2⟩ := M_undo_c (u := u) (by omega) (mFs g 19 (nI (m - 1))) (m := m - 1) (by omega) fs_s
      have rr : ∀ j, j ≠ 0 → j ≠ 7 → (mRow (mFs g 19 (nI (m - 1))) 7 b).1 j = g.1 j := fun j h0 h7 => by rw [mRow_n h7, fs_r h0]
      have ff : ∀ j, j ≠ 19 → (mRow (mFs g 19 (nI (m - 1))) 7 b).1 0 j = g.1 0 j := fun j hj => by rw [mRow_n (by omega), fs_n hj]
      obtain ⟨w1, w2, w3⟩ := W9 hc (va_cpy (csW c a) (csW c (x + 9)) 0 0 514)
      refine ⟨nI (m - 1), D3, mRow (mFs g 19 (nI (m - 1))) 7 b, ?_, ?_, _, hc3, ?_, Or.inr ⟨R, D', T', ?_, ?_, ?_, ?_⟩⟩
      · unfold fC_undo fQ_bringBack
        simp only [hc.1.r6, hc.1.r5, Option.bind_some, hc.1.at11, hc.1.q2, hc.1.q1, m3, m5, izN]
        rw [if_pos (by rw [ltI (by omega) (by omega)]; omega), el2]
        simp (disch := omega) only [Option.bind_some, L_within, inR_nI]
        rw [if_pos (by simpa using l40)]
        simp only [hc.1.q0, Option.bind_some, hc.1.qp l40, qa]
        rw [if_neg (by simp), hc.1.at6 WA_9, hc.bc WA_9 wa]
        simp only [Option.bind_some]
        rw [e2]
        simp only [Option.bind_some]
        rw [hc2.1.q2]
        have e9 : csI (cI' (cW' c (x + 9) (va_cpy (csW c a) (csW c (x + 9)) 0 0 514)) 8 (nI l)) 9 = nI m := (cI_n (by omega)).trans m3
        rw [e9, Option.bind_some, subI (by omega), e3]
        simp only [Option.bind_some]
        rw [hc3.1.q2]
        have e10 : csI (cI' (cI' (cW' c (x + 9) (va_cpy (csW c a) (csW c (x + 9)) 0 0 514)) 8 (nI l)) 9 (nI (m - 1))) 9 = nI (m - 1) := cI_s
        rw [e10]
        rfl
      · unfold fM_undo
        rw [m4]
        simp (disch := omega) only [izN, eqI]
        rw [if_neg cm]
        simp only [Option.bind_some]
        rw [subI (by omega), eg]
        simp only [Option.bind_some]
        rw [mRow_n (by omega), fs_s]
      · exact hb.of ((cI_n (by omega)).trans (cI_n (by omega))) ((cI_n (by omega)).trans (cI_n (by omega))) rfl rfl rfl rfl (rr 1 (by omega) (by omega)) (rr 5 (by omega) (by omega)) (rr 6 (by omega) (by omega)) (rr 8 (by omega) (by omega)) (ff 2 (by omega)) (ff 12 (by omega)) (ff 15 (by omega))
      · unfold rulI
        rw [ff 9 (by omega), rr 4 (by omega) (by omega)]
        exact s1
      · have e : csW (cI' (cI' (cW' c (x + 9) (va_cpy (csW c a) (csW c (x + 9)) 0 0 514)) 8 (nI l)) 9 (nI (m - 1))) (x + 9) = va_cpy (csW c a) (csW c (x + 9)) 0 0 514 := w3
        rw [e, mRow_s]
        exact ⟨⟨w0, hw.cpy _⟩, hm.cp (fun k hk => by rw [hb2 k hk, fs_r (by omega)]), hE⟩
      · refine ⟨m - 1, l, by omega, l40, cI_s, ?_, (cI_n (by omega)).trans cI_s, fun j hj => ?_⟩
        · rw [mRow_n (by omega)]; exact fs_s
        · obtain ⟨a', D'', T'', q1, q2⟩ := m6 j (by omega)
          obtain ⟨o1, o2⟩ := w1 _ a' (Nat.mod_lt _ (by omega)) q1
          refine ⟨a', D'', T'', ?_, ?_⟩
          · rw [show (l + 40 - (m - 1) + j) % 40 = (nx + 40 - m + j) % 40 by omega]
            exact o1
          · have e : csW (cI' (cI' (cW' c (x + 9) (va_cpy (csW c a) (csW c (x + 9)) 0 0 514)) 8 (nI l)) 9 (nI (m - 1))) a' = csW c a' := o2
            rw [e, rr 10 (by omega) (by omega)]
            exact q2
      · unfold imgI
        have e : csW (cI' (cI' (cW' c (x + 9) (va_cpy (csW c a) (csW c (x + 9)) 0 0 514)) 8 (nI l)) 9 (nI (m - 1))) (x + 13) = csW c (x + 13) := w2
        rw [e, rr 13 (by omega) (by omega), ff 26 (by omega), cI_n (by omega), cI_n (by omega)]
        exact s4
theorem rd13 {m : Nat} {f : Nat → Int32} (hm : m < 820) : nx_rd (mlen 13) f (nI m) = some (f m) := rd_nI hm (show (820 : Nat) ≤ 100000 by omega)
theorem mWr13 {m : Nat} {g : mS} {v : Int32} (hm : m < 820) : mWr g 13 (nI m) v = some (mRow g 13 (upd (g.1 13) m v)) := mWr_at hm (show (820 : Nat) ≤ 100000 by omega)
theorem M_image_c {u : Nat} (hu : 1000 ≤ u) (g : mS) : ok (nx_iter u fM_image_11 (nI 0, g)) (fun g' => ∃ a, g' = mRow g 13 a ∧ ∀ k, k < 820 → a k = g.1 7 k) := by
  refine it_inv (fun i s => s.1 = nI i ∧ ∃ a, s.2 = mRow g 13 a ∧ ∀ k, k < i → a k = g.1 7 k) 820 (fun i s hi hI => ?_) (fun s hI => ?_) (i := 0) ⟨rfl, g.1 13, mRow_i.symm, fun k hk => by omega⟩ (by omega) (by omega)
  · obtain ⟨e1, a, e2, h2⟩ := hI
    have e7 : (mRow g 13 a).1 7 = g.1 7 := mRow_n (by omega)
    unfold fM_image_11
    rw [e1, e2]
    simp (disch := omega) only [leI, izN, rdM, e7, nI_add, mWr13, mRow_s, mRow_m, Option.bind_some]
    rw [if_neg (by omega)]
    refine ok.ret ⟨rfl, upd a i (g.1 7 i), rfl, fun k hk => ?_⟩
    by_cases e : k = i
    · rw [upd_e e, e]
    · rw [upd_n e]; exact h2 k (by omega)
  · obtain ⟨e1, a, e2, h2⟩ := hI
    unfold fM_image_11
    rw [e1]
    simp (disch := omega) only [leI, izN]
    rw [if_pos (by omega)]
    exact ok.ret ⟨a, e2, h2⟩
theorem M_back_c {u : Nat} (hu : 1000 ≤ u) (g : mS) : ok (nx_iter u fM_back_11 (nI 0, g)) (fun g' => ∃ a, g' = mRow g 7 a ∧ ∀ k, k < 820 → a k = g.1 13 k) := by
  refine it_inv (fun i s => s.1 = nI i ∧ ∃ a, s.2 = mRow g 7 a ∧ ∀ k, k < i → a k = g.1 13 k) 820 (fun i s hi hI => ?_) (fun s hI => ?_) (i := 0) ⟨rfl, g.1 7, mRow_i.symm, fun k hk => by omega⟩ (by omega) (by omega)
  · obtain ⟨e1, a, e2, h2⟩ := hI
    have e7 : (mRow g 7 a).1 13 = g.1 13 := mRow_n (by omega)
    unfold fM_back_11
    rw [e1, e2]
    simp (disch := omega) only [leI, izN, rd13, e7, nI_add, mWr7, mRow_s, mRow_m, Option.bind_some]
    rw [if_neg (by omega)]
    refine ok.ret ⟨rfl, upd a i (g.1 13 i), rfl, fun k hk => ?_⟩
    by_cases e : k = i
    · rw [upd_e e, e]
    · rw [upd_n e]; exact h2 k (by omega)
  · obtain ⟨e1, a, e2, h2⟩ := hI
    unfold fM_back_11
    rw [e1]
    simp (disch := omega) only [leI, izN]
    rw [if_pos (by omega)]
    exact ok.ret ⟨a, e2, h2⟩
theorem B_image (hu2 : 40000 ≤ u) (hI : INV Γ x A B Dm g) : ∃ r Dm' g', fC_image u Γ Dm x = some (r, Dm') ∧ fM_image u g = some (r, g') ∧ INV Γ x A B Dm' g' := by
  have hu : 1000 ≤ u := by omega
  obtain ⟨c, hc, hb, hs⟩ := hI
  rcases hs with hf | ⟨R, D, T, hst⟩
  · refine ⟨iz (-1), Dm, g, ?_, ?_, c, hc, hb, Or.inl hf⟩
    · unfold fC_image
      rw [hc.1.r5, Option.bind_some, hc.wRd WA_9, hf.1, Wf_hasStore]
      rfl
    · unfold fM_image
      rw [Mf_isStore u hf.2.1]
      rfl
  · have hrm := st2.rm hst hb.2.2.2
    obtain ⟨s1, ⟨⟨w0, hw⟩, hm, hE⟩, s3, s4⟩ := hst
    have hc1 := hc.wr WA_13 (va_cpy (csW c (x + 9)) (csW c (x + 13)) 0 0 514)
    obtain ⟨D2, e2, hm2, hd2⟩ := hc1.1.p7 (nI 1)
    have hc2 := hc1.same hm2 rfl rfl (cI_n (by omega)) hd2
    obtain ⟨g1, eg, b, rfl, hb1⟩ := M_image_c hu g
    have w9 : csW (cI' (cW' c (x + 13) (va_cpy (csW c (x + 9)) (csW c (x + 13)) 0 0 514)) 7 (nI 1)) (x + 9) = csW c (x + 9) := upR_n (by omega)
    have rr : ∀ j, j ≠ 0 → j ≠ 13 → (mFs (mRow g 13 b) 26 (nI 1)).1 j = g.1 j := fun j h0 h7 => by rw [fs_r h0, mRow_n h7]
    have ff : ∀ j, j ≠ 26 → (mFs (mRow g 13 b) 26 (nI 1)).1 0 j = g.1 0 j := fun j hj => by rw [fs_n hj, mRow_n (by omega)]
    refine ⟨tCk T, D2, mFs (mRow g 13 b) 26 (nI 1), ?_, ?_, _, hc2, ?_, Or.inr ⟨R, D, T, ?_, ?_, ?_, ?_⟩⟩
    · unfold fC_image
      simp only [hc.1.r5, Option.bind_some, hc.wRd WA_9, W_hasStore hu hw hE.1.1, if_true, hc.1.r7, hc.1.at6 WA_13, hc.bc WA_13 WA_9, izN]
      rw [e2]
      simp only [Option.bind_some, hc2.1.r5]
      rw [hc2.wRd WA_9, w9]
      unfold fW_clock
      simp (disch := omega) only [izN, nI_add, mulI, rdW, wrW, Option.bind_some, hw.cc]
    · unfold fM_image
      rw [M_isStore hu hrm hE.1.1.1 hE.1.1.2.1]
      simp only [Option.bind_some, if_true, izN]
      rw [eg]
      simp (disch := omega) only [Option.bind_some, rdM]
      rw [rr 7 (by omega) (by omega), hm.cc]
    · exact hb.of (cI_n (by omega)) (cI_n (by omega)) rfl rfl rfl rfl (rr 1 (by omega) (by omega)) (rr 5 (by omega) (by omega)) (rr 6 (by omega) (by omega)) (rr 8 (by omega) (by omega)) (ff 2 (by omega)) (ff 12 (by omega)) (ff 15 (by omega))
    · unfold rulI
      rw [ff 9 (by omega), rr 4 (by omega) (by omega)]
      exact s1
    · rw [w9, rr 7 (by omega) (by omega)]
      exact ⟨⟨w0, hw⟩, hm, hE⟩
    · obtain ⟨m, nx, m1, m2, m3, m4, m5, m6⟩ := s3
      refine ⟨m, nx, m1, m2, (cI_n (by omega)).trans m3, (ff 19 (by omega)).trans m4, (cI_n (by omega)).trans m5, fun j hj => ?_⟩
      obtain ⟨a', D'', T'', q1, q2⟩ := m6 j hj
      have a34 := hc.2.1 1 _ a' (Or.inl ⟨rfl, Nat.mod_lt _ (by omega)⟩) q1
      refine ⟨a', D'', T'', q1, ?_⟩
      have e : csW (cI' (cW' c (x + 13) (va_cpy (csW c (x + 9)) (csW c (x + 13)) 0 0 514)) 7 (nI 1)) a' = csW c a' := upR_n (by omega)
      rw [e, rr 10 (by omega) (by omega)]
      exact q2
    · right
      refine ⟨cI_s, fs_s, D, T, ?_⟩
      have e : csW (cI' (cW' c (x + 13) (va_cpy (csW c (x + 9)) (csW c (x + 13)) 0 0 514)) 7 (nI 1)) (x + 13) = va_cpy (csW c (x + 9)) (csW c (x + 13)) 0 0 514 := upR_s
      rw [e, fs_r (by omega), mRow_s]
      exact ⟨⟨w0, hw.cpy _⟩, hm.cp (fun k hk => hb1 k hk), hE⟩
theorem B_back (hu2 : 40000 ≤ u) (hI : INV Γ x A B Dm g) : ∃ r Dm' g', fC_back u Γ Dm x = some (r, Dm') ∧ fM_back u g = some (r, g') ∧ INV Γ x A B Dm' g' := by
  have hu : 1000 ≤ u := by omega
  obtain ⟨c, hc, hb, hs⟩ := hI
  have h0 : csI c 7 = nI 0 → g.1 0 26 = nI 0 → ∃ r Dm' g', fC_back u Γ Dm x = some (r, Dm') ∧ fM_back u g = some (r, g') ∧ INV Γ x A B Dm' g' := by
    intro e1 e2
    refine ⟨iz (-1), Dm, g, ?_, ?_, c, hc, hb, hs⟩
    · unfold fC_back
      rw [hc.1.i8, e1]
      rfl
    · unfold fM_back
      rw [e2]
      rfl
  rcases hs with hf | ⟨R, D, T, hst⟩
  · exact h0 hf.2.2.2.2.2.2.2.1 hf.2.2.2.2.2.2.2.2
  · obtain ⟨s1, s2, s3, s4⟩ := hst
    rcases s4 with ⟨i1, i2⟩ | ⟨i1, i2, D', T', ⟨w0, hw⟩, hm, hE⟩
    · exact h0 i1 i2
    · have hc1 := hc.wr WA_9 (va_cpy (csW c (x + 13)) (csW c (x + 9)) 0 0 514)
      obtain ⟨D2, e2, hm2, hd2⟩ := hc1.1.p9 (nI 0)
      have hc2 := hc1.same hm2 rfl rfl (cI_n (by omega)) hd2
      obtain ⟨g1, eg, b, rfl, hb1⟩ := M_back_c hu g
      obtain ⟨w1, w2, w3⟩ := W9 hc (va_cpy (csW c (x + 13)) (csW c (x + 9)) 0 0 514)
      have rr : ∀ j, j ≠ 0 → j ≠ 7 → (mFs (mRow g 7 b) 19 (nI 0)).1 j = g.1 j := fun j h0 h7 => by rw [fs_r h0, mRow_n h7]
      have ff : ∀ j, j ≠ 19 → (mFs (mRow g 7 b) 19 (nI 0)).1 0 j = g.1 0 j := fun j hj => by rw [fs_n hj, mRow_n (by omega)]
      have ew9 : csW (cI' (cW' c (x + 9) (va_cpy (csW c (x + 13)) (csW c (x + 9)) 0 0 514)) 9 (nI 0)) (x + 9) = va_cpy (csW c (x + 13)) (csW c (x + 9)) 0 0 514 := w3
      have hm7 : rM none D' ((mFs (mRow g 7 b) 19 (nI 0)).1 7) T' := by
        rw [fs_r (by omega), mRow_s]
        exact hm.cp (fun k hk => hb1 k hk)
      refine ⟨tCk T', D2, mFs (mRow g 7 b) 19 (nI 0), ?_, ?_, _, hc2, ?_, Or.inr ⟨R, D', T', ?_, ?_, ?_, ?_⟩⟩
      · unfold fC_back
        rw [hc.1.i8, i1, Option.bind_some, if_neg (by simp only [izN]; exact i10)]
        simp only [hc.1.r5, Option.bind_some, hc.1.r7, hc.1.at6 WA_9, hc.bc WA_9 WA_13, hc1.1.r6, hc1.1.at11]
        unfold fQ_forget
        simp only [izN]
        rw [e2]
        simp only [Option.bind_some, hc2.1.r5]
        rw [hc2.wRd WA_9, ew9]
        unfold fW_clock
        simp (disch := omega) only [izN, nI_add, mulI, rdW, wrW, Option.bind_some, (hw.cpy (csW c (x + 9))).cc]
      · unfold fM_back
        rw [i2, if_neg (by simp only [izN]; exact i10)]
        simp only [izN]
        rw [eg]
        simp (disch := omega) only [Option.bind_some, rdM]
        rw [hm7.cc]
      · exact hb.of (cI_n (by omega)) (cI_n (by omega)) rfl rfl rfl rfl (rr 1 (by omega) (by omega)) (rr 5 (by omega) (by omega)) (rr 6 (by omega) (by omega)) (rr 8 (by omega) (by omega)) (ff 2 (by omega)) (ff 12 (by omega)) (ff 15 (by omega))
      · unfold rulI
        rw [ff 9 (by omega), rr 4 (by omega) (by omega)]
        exact s1
      · rw [ew9]
        exact ⟨⟨w0, hw.cpy _⟩, hm7, hE⟩
      · obtain ⟨m, nx, m1, m2, m3, m4, m5, m6⟩ := s3
        exact ⟨0, nx, by omega, m2, cI_s, fs_s, (cI_n (by omega)).trans m5, fun j hj => by omega⟩
      · right
        refine ⟨(cI_n (by omega)).trans i1, (ff 26 (by omega)).trans i2, D', T', ?_⟩
        have e : csW (cI' (cW' c (x + 9) (va_cpy (csW c (x + 13)) (csW c (x + 9)) 0 0 514)) 9 (nI 0)) (x + 13) = csW c (x + 13) := w2
        rw [e, rr 13 (by omega) (by omega)]
        exact ⟨⟨w0, hw⟩, hm, hE⟩
end HAND2
