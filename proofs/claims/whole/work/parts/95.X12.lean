/-! ===== end, fault ===== -/
theorem in_nn {a : Int32} {n : Nat} (hn : n < 1000000) (h0 : ¬ a < nI 0) (h1 : a ≤ nI n) : ∃ m, m ≤ n ∧ a = nI m := by
  obtain ⟨z, hz, z1, z2⟩ := iz_of a
  rw [hz, ← iz_cast 0, iz_lt (by omega) (by omega) (by omega) (by omega)] at h0
  rw [hz, ← iz_cast n, iz_le (by omega) (by omega) (by omega) (by omega)] at h1
  refine ⟨z.toNat, by omega, ?_⟩
  rw [hz, ← iz_cast]
  congr 1
  omega
theorem cI_E {c : CS} {k : Nat} {v : Int32} (hk : k < 5) : cE c (cI' c k v) := ⟨fun q hq => cI_n (by omega), fun _ _ => rfl, rfl, rfl, rfl, rfl, fun _ _ => ⟨rfl, rfl⟩⟩
section BTX
variable {Γ : nx_G} {x A B : Nat} {Dm : nx_M} {g : mS} {u : Nat}
theorem B_end (a1 : Int32) (_hu2 : 40000 ≤ u) (h : INV Γ x A B Dm g) : ∃ r Dm' g', fC_end u Γ Dm x a1 = some (r, Dm') ∧ fM_end u g a1 = some (r, g') ∧ INV Γ x A B Dm' g' := by
  have h0 := h
  obtain ⟨c, hc, hb, hs⟩ := h
  obtain ⟨⟨n, n1, n2, n3, n4, n5⟩, ⟨k, k1, k2, k3, k4⟩, b3, b4⟩ := id hb
  unfold fC_end fM_end fM_in
  simp only [izN]
  rw [n3]
  by_cases c0 : a1 < nI 0
  · rw [if_pos c0, if_pos c0]
    exact ⟨false, Dm, g, rfl, rfl, h0⟩
  · rw [if_neg c0, if_neg c0, hc.1.r0, Option.bind_some, hc.1.tl, Option.bind_some, n2]
    by_cases c1 : a1 ≤ nI n
    · rw [if_pos c1, if_neg (show ¬ nI n < a1 from Int32.not_lt.mpr c1)]
      obtain ⟨D', e, hm, hd⟩ := hc.1.p0 a1
      obtain ⟨m, m1, m2⟩ := in_nn (by omega) c0 c1
      simp only [Option.bind_some, hc.1.r0]
      rw [e]
      refine ⟨true, D', mFs g 2 a1, rfl, rfl, INV.tx hc hb hs (hc.same hm rfl rfl (cI_n (by omega)) hd) (cI_E (by omega)) k3 k1 ⟨fun i h0 _ _ _ _ _ => fs_r h0, fun q h2 _ _ _ => fs_n h2, rfl, fun j _ => by rw [fs_r (by omega)], fun j _ => by rw [fs_r (by omega)]⟩ ⟨m, by omega, cI_s.trans m2, fs_s.trans m2, ?_, fun i => ?_⟩⟩
      · rw [fs_r (by omega)]; exact n4
      · rw [fs_r (by omega)]; exact n5 i
    · rw [if_neg c1, if_pos (show nI n < a1 from Int32.not_le.mp c1)]
      exact ⟨false, Dm, g, rfl, rfl, h0⟩
theorem tx_of {c : CS} {g' : pS} {h' : mS} {n : Nat} (hn : n ≤ 240) (g0 : g' 0 0 = nI n) (h2 : h'.1 0 2 = nI n) (h1 : g' 1 = h'.1 1) (hb : ∀ i, h'.1 1 i ≠ iz (-1)) : txI (cT c g') h' := ⟨n, hn, g0, h2, h1, hb⟩
theorem hS_x {n : Nat} {g g' : mS} (h : hS g g') : mX n g g' := ⟨fun i h0 _ h2 h3 _ _ => h.1 i h0 h2 h3, fun q _ h3 h4 h7 => h.2.1 q h3 h4 h7, h.2.2, fun j _ => by rw [h.1 6 (by omega) (by omega) (by omega)], fun j _ => by rw [h.1 5 (by omega) (by omega) (by omega)]⟩
theorem hP_x {n k : Nat} {g g' : mS} (hk : n ≤ k) (h : hP k g g') : mX n g g' := ⟨fun i h0 _ _ _ h5 h6 => h.1 i h0 h5 h6, fun q _ h3 h4 _ => h.2.1 q h3 h4, h.2.2.1, fun j hj => h.2.2.2.1 j (by omega), fun j hj => h.2.2.2.2 j (by omega)⟩
theorem eqg_y {a b : Nat} (h : a = b) : eqg a b = some () := if_pos h
/-- a store's text is read, in memory -/
theorem K_store (hu : 1000 ≤ u) {c : CS} (hc : CC Γ x A B c Dm) (hb : bas c g) : ∃ r g' h' n, tWr2 Γ Dm (x + 1) (csP c) (fun g => fT_faultOf u g) = some (r, tW Γ Dm (x + 1) (csP c) g') ∧ fM_readStore u g = some (r, h') ∧ stOut n r (cG c) g' g h' ∧ txI (cT c g') h' := by
  obtain ⟨⟨n, n1, n2, n3, n4, n5⟩, _⟩ := hb
  obtain ⟨r, g', h', e1, e2, e3⟩ := TM_store (u := u) (n := n) (g := cG c) (h := g) hu n1 n2 n3 n4 n5
  refine ⟨r, g', h', n, hc.tr2 (F := fun g => fT_faultOf u g) (r := (r, g')) e1, e2, e3, tx_of n1 (e3.1.2.1.trans n2) ((e3.2.1.2.1 2 (by omega) (by omega) (by omega)).trans n3) ?_ (fun i => ?_)⟩
  · rw [e3.1.1 1 (by omega) (by omega) (by omega), e3.2.1.1 1 (by omega) (by omega) (by omega)]; exact n4
  · rw [e3.2.1.1 1 (by omega) (by omega) (by omega)]; exact n5 i
theorem K_script (hu : 1000 ≤ u) {c : CS} {k : Nat} (hk : k < 5) (hc : CC Γ x A B c Dm) (hb : bas c g) : ∃ r g' h' n, tWr2 Γ Dm (x + 1) (csP c) (fun g => fP_faultOf u g) = some (r, tW Γ Dm (x + 1) (csP c) g') ∧ fM_readScript u g (nI k) = some (r, h') ∧ scOut n k r (cG c) g' g h' ∧ txI (cT c g') h' := by
  obtain ⟨⟨n, n1, n2, n3, n4, n5⟩, _⟩ := hb
  obtain ⟨r, g', h', e1, e2, e3⟩ := TM_script (u := u) (n := n) (g := cG c) (h := g) hu hk n1 n2 n3 n4
  refine ⟨r, g', h', n, hc.tr2 (F := fun g => fP_faultOf u g) (r := (r, g')) e1, e2, e3, tx_of n1 ((e3.1.2 0 (by omega) (by omega) (by omega)).trans n2) ((e3.2.1.2.1 2 (by omega) (by omega)).trans n3) ?_ (fun i => ?_)⟩
  · rw [e3.1.1 1 (by omega) (by omega), e3.2.1.1 1 (by omega) (by omega) (by omega)]; exact n4
  · rw [e3.2.1.1 1 (by omega) (by omega) (by omega)]; exact n5 i
theorem B_fault (a1 : Int32) (hu : 40000 ≤ u) (h : INV Γ x A B Dm g) : ∃ r Dm' g', fC_fault u Γ Dm x a1 = some (r, Dm') ∧ fM_fault u g a1 = some (r, g') ∧ INV Γ x A B Dm' g' := by
  have h0 := h
  obtain ⟨c, hc, hb, hs⟩ := h
  obtain ⟨k, k1, k2, k3, k4⟩ := id hb.2.1
  unfold fC_fault fM_fault
  simp only [izN]
  by_cases c0 : a1 = nI 0
  · rw [if_pos c0, if_pos c0]
    simp only [hc.1.r0, hc.1.r1, hc.1.r3, Option.bind_some]
    rw [eqg_y (by omega)]
    obtain ⟨r, g', h', n, e1, e2, e3, e4⟩ := K_store (u := u) (by omega) hc hb
    simp only [Option.bind_some]
    rw [e1, e2]
    exact ⟨r, _, h', rfl, rfl, INV.tx hc hb hs (hc.tw g') (cT_E c g') k3 k1 (hS_x e3.2.1) e4⟩
  · rw [if_neg c0, if_neg c0]
    by_cases c1 : a1 = nI 1
    · rw [if_pos c1, if_pos c1]
      simp only [hc.1.r0, hc.1.r3, Option.bind_some]
      obtain ⟨r, g', h', n, e1, e2, e3, e4⟩ := K_script (u := u) (k := 4) (by omega) (by omega) hc hb
      rw [e1, e2]
      exact ⟨r, _, h', rfl, rfl, INV.tx hc hb hs (hc.tw g') (cT_E c g') k3 k1 (hP_x k1 e3.2.1) e4⟩
    · rw [if_neg c1, if_neg c1]
      exact ⟨_, Dm, g, rfl, rfl, h0⟩
end BTX
