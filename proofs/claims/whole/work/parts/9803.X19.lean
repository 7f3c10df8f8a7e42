/-! ===== text: a store ===== -/
theorem hB.cg {K : Nat} {val val' h : Nat → Int32} (hh : hB K val h) (e : ∀ k, k < K → val' k = val k) : hB K val' h := by
  obtain ⟨h1, h2, h3, h4⟩ := hh
  exact ⟨h1, h2, fun k hk => by rw [e k hk]; exact h3 k hk, h4⟩
theorem scI.tx {Γ : nx_G} {x A B : Nat} {c c' : CS} {D : nx_M} {g g' : mS} (hc : CC Γ x A B c D) (h : scI c g) (h6 : csI c' 6 = csI c 6) (hq : csQ c' = csQ c) (hn : ∀ a, a ≠ csP c → csN c' a = csN c a ∧ csS c' a = csS c a) (m12 : g'.1 0 12 = g.1 0 12) (m5 : g'.1 5 = g.1 5) (m6 : g'.1 6 = g.1 6) : scI c' g' := by
  obtain ⟨k, k1, k2, k3, k4⟩ := h
  refine ⟨k, k1, h6.trans k2, m12.trans k3, fun i hi => ?_⟩
  obtain ⟨a, m, a1, a2, a3, a4, a5⟩ := k4 i hi
  obtain ⟨f1, f2⟩ := hn a (hc.2.2.2.1 i a (by omega) a1)
  refine ⟨a, m, by rw [hq]; exact a1, a2, f1.trans a3, by rw [m6]; exact a4, fun j hj => ?_⟩
  rw [f2, m5]
  exact a5 j hj
section BST
variable {Γ : nx_G} {x A B : Nat} {Dm : nx_M} {g : mS} {u : Nat}
theorem B_tsto (hu2 : 40000 ≤ u) (h : INV Γ x A B Dm g) : ∃ r Dm' g', fC_takeStore u Γ Dm x = some (r, Dm') ∧ fM_text u g (nI 0) = some (r, g') ∧ INV Γ x A B Dm' g' := by
  obtain ⟨c, hc, hb, hs⟩ := h
  obtain ⟨k, k1, k2, k3, k4⟩ := id hb.2.1
  have hu : 1000 ≤ u := by omega
  unfold fC_takeStore fM_text
  simp only [izN, if_true]
  rw [hc.1.r1, Option.bind_some, hc.1.r0, Option.bind_some, hc.1.r3, Option.bind_some, eqg_y (by omega), Option.bind_some]
  obtain ⟨r, g', h', n, e1, e2, e3, e4⟩ := K_store (u := u) hu hc hb
  rw [e1, e2]
  simp only [Option.bind_some]
  by_cases cr : r = iz (-1)
  · rw [if_pos cr, if_pos cr]
    obtain ⟨f1, f2, f3⟩ := e3
    obtain ⟨K, F, hK1, po, hK, hF, s3, m7, s4, ⟨rr1, rr2, rr3⟩, hus, hks⟩ := f3 cr
    have hnx : ∃ nx, nx < 40 ∧ csI c 8 = nI nx := by
      rcases hs with ⟨_, _, _, _, _, _, q, _⟩ | ⟨R, Ds, T, _, _, ⟨m, nx, _, q1, _, _, q2, _⟩, _⟩
      · exact q
      · exact ⟨nx, q1, q2⟩
    obtain ⟨nx, nx1, nx2⟩ := hnx
    have hc1 := hc.tw g'
    obtain ⟨D2, p1, p2, p3⟩ := hc1.1.p0 (nI 0)
    have hc2 := hc1.same p2 rfl rfl (cI_n (by omega)) p3
    obtain ⟨f, b1, b2⟩ := C_begins (u := u) hc2.1 hu hK s3
    have hc3 := hc2.wr WA_9 f
    obtain ⟨D4, p4, p5, p6⟩ := hc3.1.p9 (nI 0)
    have hc4 := hc3.same p5 rfl rfl (cI_n (by omega)) p6
    obtain ⟨D5, p7, p8, p9⟩ := hc4.1.p7 (nI 0)
    have hc5 := hc4.same p8 rfl rfl (cI_n (by omega)) p9
    have m72 : (mFs h' 2 (nI 0)).1 0 7 = nI K := (fs_n (by omega)).trans m7
    obtain ⟨g'', t1, t2, t3, t4, t5, t6, t7, t8, t9⟩ := M_takeStore (u := u) hu (mFs h' 2 (nI 0)) hK m72
    have w9 : csW (cI' (cI' (cW' (cI' (cT c g') 0 (nI 0)) (x + 9) f) 9 (nI 0)) 7 (nI 0)) (x + 9) = f := upR_s
    have hf3 : f 3 = nI K := b2.2.1
    obtain ⟨nn, x1, x2, x3, x4, x5⟩ := e4
    refine ⟨nI K, D5, g'', ?_, ?_, ⟨_, hc5, ⟨⟨0, by omega, ?_, ?_, ?_, fun i => ?_⟩, scI.tx hc hb.2.1 ?_ rfl (fun a ha => ⟨upd_n ha, upR_n ha⟩) ?_ ?_ ?_, ?_, ?_⟩, Or.inr ⟨(K, g' 2 0, g' 2 1, g' 2 2), fun _ => [], T0 K (g' 3), ⟨t5, ?_, ?_, ?_⟩, ⟨⟨nI 0, ?_⟩, ?_, T0_EI hK1 hK rr2 rr3⟩, ⟨0, nx, by omega, nx1, ?_, t6, ?_, fun j hj => by omega⟩, Or.inl ⟨cI_s, t7⟩⟩⟩⟩
    · rw [hc1.1.r0, Option.bind_some, p1, Option.bind_some, hc2.1.r5, Option.bind_some, hc2.1.r1, Option.bind_some, hc2.1.at6 WA_9, b1, Option.bind_some]
      rw [show wPut Γ D2 (x + 10) f = wPut Γ D2 (x + 9 + 1) f from rfl, hc3.1.r6, Option.bind_some, hc3.1.at11]
      unfold fQ_forget
      simp only [izN]
      rw [p4]
      simp only [Option.bind_some]
      rw [p7, Option.bind_some, hc5.1.r5, Option.bind_some, hc5.wRd WA_9, w9]
      unfold fW_keys
      simp (disch := omega) only [izN, rdW, Option.bind_some, hf3]
    · rw [t1]; rfl
    · exact (cI_n (by omega)).trans ((cI_n (by omega)).trans (show csI (cI' (cT c g') 0 (nI 0)) 0 = _ from cI_s))
    · rw [t3 2 (by omega) (by omega) (by omega)]; exact fs_s
    · rw [t2 1 (by omega) (by omega) (by omega), fs_r (by omega)]; exact x4
    · rw [t2 1 (by omega) (by omega) (by omega), fs_r (by omega)]; exact x5 i
    · exact (cI_n (by omega)).trans ((cI_n (by omega)).trans ((show csI (cI' (cT c g') 0 (nI 0)) 6 = csI (cT c g') 6 from cI_n (by omega)).trans ((cT_E c g').1 6 (by omega))))
    · rw [t3 12 (by omega) (by omega) (by omega), fs_n (by omega)]; exact f2.2.1 12 (by omega) (by omega) (by omega)
    · rw [t2 5 (by omega) (by omega) (by omega), fs_r (by omega)]; exact f2.1 5 (by omega) (by omega) (by omega)
    · rw [t2 6 (by omega) (by omega) (by omega), fs_r (by omega)]; exact f2.1 6 (by omega) (by omega) (by omega)
    · unfold rfI
      rw [t2 8 (by omega) (by omega) (by omega), fs_r (by omega), f2.1 8 (by omega) (by omega) (by omega)]
      exact ((cT_E c g').2.1 7 (by omega)).trans hb.2.2.1
    · rw [t3 15 (by omega) (by omega) (by omega), fs_n (by omega), f2.2.1 15 (by omega) (by omega) (by omega)]; exact hb.2.2.2
    · rw [t8 0 (by omega), fs_r (by omega)]; exact (rr1 0 (by omega)).symm
    · rw [t8 1 (by omega), fs_r (by omega)]; exact (rr1 1 (by omega)).symm
    · rw [t8 2 (by omega), fs_r (by omega)]; exact (rr1 2 (by omega)).symm
    · rw [w9]; exact fB.RW hK b2
    · refine hB.rM hK (t9.cg (fun k hk => ?_))
      rw [fs_r (by omega)]; exact hks k hk
    · exact (cI_n (by omega)).trans cI_s
    · exact (cI_n (by omega)).trans ((cI_n (by omega)).trans ((show csI (cI' (cT c g') 0 (nI 0)) 8 = csI (cT c g') 8 from cI_n (by omega)).trans (((cT_E c g').1 8 (by omega)).trans nx2)))
  · rw [if_neg cr, if_neg cr]
    refine ⟨_, _, h', rfl, ?_, INV.tx hc hb hs (hc.tw g') (cT_E c g') k3 k1 (hS_x e3.2.1) e4⟩
    rw [if_neg (Ne.symm i10)]
theorem B_text (a1 : Int32) (hu2 : 40000 ≤ u) (h : INV Γ x A B Dm g) : ∃ r Dm' g', fC_text u Γ Dm x a1 = some (r, Dm') ∧ fM_text u g a1 = some (r, g') ∧ INV Γ x A B Dm' g' := by
  have h0 := h
  obtain ⟨c, hc, _⟩ := h
  unfold fC_text
  simp only [izN]
  by_cases c0 : a1 = nI 0
  · subst c0
    obtain ⟨r, Dm', g', e1, e2, e3⟩ := B_tsto hu2 h0
    rw [if_pos rfl, hc.1.at0, e1]
    exact ⟨r, Dm', g', rfl, e2, e3⟩
  · rw [if_neg c0]
    by_cases c1 : a1 = nI 1
    · subst c1
      obtain ⟨r, Dm', g', e1, e2, e3⟩ := B_tscr hu2 h0
      rw [if_pos rfl, hc.1.at0, e1]
      exact ⟨r, Dm', g', rfl, e2, e3⟩
    · rw [if_neg c1]
      refine ⟨_, Dm, g, rfl, ?_, h0⟩
      unfold fM_text
      simp only [izN]
      rw [if_neg c0, if_neg c1]
end BST
