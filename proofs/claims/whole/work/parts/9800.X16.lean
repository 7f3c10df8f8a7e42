/-! ===== text: a script ===== -/
section BSC
variable {Γ : nx_G} {x A B : Nat} {Dm : nx_M} {g : mS} {u : Nat}
theorem B_tscr (hu2 : 40000 ≤ u) (h : INV Γ x A B Dm g) : ∃ r Dm' g', fC_takeScript u Γ Dm x = some (r, Dm') ∧ fM_text u g (nI 1) = some (r, g') ∧ INV Γ x A B Dm' g' := by
  have h0 := h
  obtain ⟨c, hc, hb, hs⟩ := h
  obtain ⟨k, k1, k2, k3, k4⟩ := id hb.2.1
  unfold fC_takeScript fM_text
  simp only [izN, if_true]
  rw [if_neg i10, hc.1.i4, Option.bind_some, k2, k3]
  by_cases c4 : k = 4
  · have l4 : nI 4 ≤ nI k := by rw [leI (by omega) (by omega)]; omega
    rw [if_pos l4, if_pos l4]
    exact ⟨_, Dm, g, rfl, rfl, h0⟩
  · have l4 : ¬ nI 4 ≤ nI k := by rw [leI (by omega) (by omega)]; omega
    rw [if_neg l4, if_neg l4, hc.1.r3, Option.bind_some, hc.1.r0, Option.bind_some]
    obtain ⟨r, g', h', n, e1, e2, e3, e4⟩ := K_script (u := u) (k := k) (by omega) (by omega) hc hb
    rw [e1, e2]
    simp only [Option.bind_some]
    by_cases cr : r = iz (-1)
    · rw [if_pos cr, if_pos cr]
      obtain ⟨f1, f2, f3⟩ := e3
      obtain ⟨m, hm, q1, q2, q3, q4⟩ := f3 cr
      have hc1 := hc.tw g'
      obtain ⟨D2, p1, p2, p3⟩ := hc1.1.p0 (nI 0)
      have hc2 := hc1.same p2 rfl rfl (cI_n (by omega)) p3
      obtain ⟨c3, D3, t1, t2, t3, t4, t5, t6, t7, t8, t9, t10⟩ := hc2.tk (u := u) (k := k) (by omega) k2
      obtain ⟨nn, x1, x2, x3, x4, x5⟩ := e4
      have hk12 : h'.1 0 12 = nI k := (f2.2.1 12 (by omega) (by omega)).trans k3
      have g12 : (mFs h' 2 (nI 0)).1 0 12 = nI k := (fs_n (by omega)).trans hk12
      refine ⟨nI k, D3, mFs (mFs h' 2 (nI 0)) 12 (nI (k + 1)), ?_, ?_, INV.ty hb hs t2 ⟨0, by omega, (t4 0 (by omega)).trans cI_s, (fs_n (by omega)).trans fs_s, ?_, fun i => ?_⟩ ⟨k + 1, by omega, t3, fs_s, fun i hi => ?_⟩ (by rw [t5]; rfl) (by rw [t7]; rfl) (by rw [t6]; rfl) (fun j hj => ?_) (fun i hi => ?_) (fun q hq => ?_)⟩
      · rw [hc1.1.r0, Option.bind_some, p1, Option.bind_some]
        exact t1
      · rw [g12, nI_add]
        simp only [fs_s, decI]
      · rw [t5, fs_r (by omega), fs_r (by omega)]; exact x4
      · rw [fs_r (by omega), fs_r (by omega)]; exact x5 i
      · by_cases e : i = k
        · subst e
          obtain ⟨s1, s2⟩ := t10 (csP c) (Or.inl rfl)
          have s1' : csN c3 (csP c) = nI m := s1.trans ((show upd (csN c) (csP c) (g' 0 5) (csP c) = _ from upd_s).trans q2)
          have s2' : csS c3 (csP c) = g' 4 := s2.trans (show upR (csS c) (csP c) (g' 4) (csP c) = _ from upR_s)
          refine ⟨csP c, m, t8, hm, s1', ?_, fun t ht => ?_⟩
          · rw [fs_r (by omega), fs_r (by omega)]; exact q3
          · rw [s2', fs_r (by omega), fs_r (by omega)]
            exact q4 t ht
        · obtain ⟨a, m', a1, a2, a3, a4, a5⟩ := k4 i (by omega)
          have hap : a ≠ csP c := hc.2.2.2.1 i a (by omega) a1
          obtain ⟨s1, s2⟩ := t10 a (Or.inr ⟨i, by omega, a1⟩)
          have s1' : csN c3 a = csN c a := s1.trans (show upd (csN c) (csP c) (g' 0 5) a = _ from upd_n hap)
          have s2' : csS c3 a = csS c a := s2.trans (show upR (csS c) (csP c) (g' 4) a = _ from upR_n hap)
          refine ⟨a, m', (t9 i e).trans a1, a2, s1'.trans a3, ?_, fun t ht => ?_⟩
          · rw [fs_r (by omega), fs_r (by omega), f2.2.2.2.1 i e]; exact a4
          · rw [s2', fs_r (by omega), fs_r (by omega)]
            refine ⟨(a5 t ht).1, fun w hw => ?_⟩
            rw [f2.2.2.2.2 _ (by omega)]
            exact (a5 t ht).2 w hw
      · rw [t4 j (by omega)]
        exact (cI_n (by omega)).trans ((cT_E c g').1 j (by omega))
      · rw [fs_r (by omega), fs_r (by omega)]; exact f2.1 i (by omega) (by omega) (by omega)
      · rw [fs_n (by omega), fs_n (by omega)]; exact f2.2.1 q (by omega) (by omega)
    · rw [if_neg cr, if_neg cr]
      exact ⟨_, _, h', rfl, rfl, INV.tx hc hb hs (hc.tw g') (cT_E c g') k3 k1 (hP_x (Nat.le_refl k) e3.2.1) e4⟩
end BSC
