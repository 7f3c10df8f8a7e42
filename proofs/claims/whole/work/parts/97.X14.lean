/-! ===== feed on both sides ===== -/
def wS (a1 a2 a3 a4 a5 : Int32) (i : Nat) : Int32 := if 4 ≤ i then if 8 ≤ i then if 12 ≤ i then if 16 ≤ i then a5 else a4 else a3 else a2 else a1
def byt (a1 a2 a3 a4 a5 : Int32) (i : Nat) : Nat := bv (wS a1 a2 a3 a4 a5 i) (24 - 8 * (i % 4))
theorem byt_lt {a1 a2 a3 a4 a5 : Int32} {i : Nat} : byt a1 a2 a3 a4 a5 i < 256 := bv_lt
theorem rm4 {i : Nat} (hi : i < 1000) : nx_rm32 (nI i) (nI 4) = some (nI (i % 4)) := by
  unfold nx_rm32
  rw [if_neg (by decide +kernel), pk_rem (by omega) (by omega) (by omega)]
section FEED
variable {u : Nat} {a1 a2 a3 a4 a5 : Int32}
theorem M_byteOf {i : Nat} (hi : i < 20) : fM_byteOf u a1 a2 a3 a4 a5 (nI i) = some (nI (byt a1 a2 a3 a4 a5 i)) := by
  have hw : (if nI 4 ≤ nI i then if nI 8 ≤ nI i then if nI 12 ≤ nI i then if nI 16 ≤ nI i then some a5 else some a4 else some a3 else some a2 else some a1 : Option Int32) = some (wS a1 a2 a3 a4 a5 i) := by
    unfold wS
    simp (disch := omega) only [leI]
    by_cases c1 : 4 ≤ i
    · rw [if_pos c1, if_pos c1]
      by_cases c2 : 8 ≤ i
      · rw [if_pos c2, if_pos c2]
        by_cases c3 : 12 ≤ i
        · rw [if_pos c3, if_pos c3]
          by_cases c4 : 16 ≤ i
          · rw [if_pos c4, if_pos c4]
          · rw [if_neg c4, if_neg c4]
        · rw [if_neg c3, if_neg c3]
      · rw [if_neg c2, if_neg c2]
    · rw [if_neg c1, if_neg c1]
  unfold fM_byteOf
  simp only [izN]
  rw [hw, rm4 (by omega)]
  simp only [Option.bind_some, mulI]
  rw [subI (by omega), bM _ (by omega)]
  rfl
def cN (a1 a2 a3 a4 a5 : Int32) : Nat → Nat
  | 0 => 0
  | i + 1 => cN a1 a2 a3 a4 a5 i + cB (byt a1 a2 a3 a4 a5 i)
theorem cN_le (a1 a2 a3 a4 a5 : Int32) (i : Nat) : cN a1 a2 a3 a4 a5 i ≤ i := by
  induction i with
  | zero => exact Nat.le_refl _
  | succ i ih =>
    have := cB_le (b := byt a1 a2 a3 a4 a5 i)
    show cN a1 a2 a3 a4 a5 i + cB _ ≤ _
    omega
theorem cN_mono (a1 a2 a3 a4 a5 : Int32) (i k : Nat) : cN a1 a2 a3 a4 a5 i ≤ cN a1 a2 a3 a4 a5 (i + k) := by
  induction k with
  | zero => exact Nat.le_refl _
  | succ k ih =>
    show _ ≤ cN a1 a2 a3 a4 a5 (i + k) + cB _
    omega
theorem cN_20 : cN a1 a2 a3 a4 a5 20 = cW a1 + cW a2 + cW a3 + cW a4 + cW a5 := by
  simp only [cN, byt, wS, cW]
  simp
  omega
theorem M_count (hu : 1000 ≤ u) : nx_iter u (fM_feed_6 u a1 a2 a3 a4 a5) (nI 0, nI 0) = some (nI (cN a1 a2 a3 a4 a5 20)) := by
  refine it_up (fun i => (nI (cN a1 a2 a3 a4 a5 i), nI i)) 20 (fun i hi => ?_) ?_ (i := 0) (by omega) (by omega)
  · unfold fM_feed_6
    simp (disch := omega) only [izN, leI, M_byteOf hi, Option.bind_some]
    rw [if_neg (by omega)]
    show _ = some (Sum.inl (nI (cN a1 a2 a3 a4 a5 i + cB (byt a1 a2 a3 a4 a5 i)), nI (i + 1)))
    unfold cB
    by_cases e : byt a1 a2 a3 a4 a5 i = 0
    · rw [if_pos ((nb0 byt_lt).mpr e), if_pos e]
      simp only [Option.bind_some, nI_add]
    · rw [if_neg (fun q => e ((nb0 byt_lt).mp q)), if_neg e]
      simp only [Option.bind_some, nI_add]
  · unfold fM_feed_6
    simp (disch := omega) only [izN, leI]
    rw [if_pos (by omega)]
def hTp (h : mS) (s : tp) : mS := mFs (mRow h 1 s.2) 2 (nI s.1)
theorem hTp_0 {h : mS} {s : tp} : (hTp h s).1 0 2 = nI s.1 := fs_s
theorem hTp_1 {h : mS} {s : tp} : (hTp h s).1 1 = s.2 := by unfold hTp; rw [fs_r (by omega), mRow_s]
theorem hTp_r {h : mS} {s : tp} {i : Nat} (h0 : i ≠ 0) (h1 : i ≠ 1) : (hTp h s).1 i = h.1 i := by unfold hTp; rw [fs_r h0, mRow_n h1]
theorem hTp_n {h : mS} {s : tp} {q : Nat} (h2 : q ≠ 2) : (hTp h s).1 0 q = h.1 0 q := by unfold hTp; rw [fs_n h2, mRow_n (by omega)]
theorem hTp_m {h : mS} {s s' : tp} : mFs (mRow (hTp h s) 1 s'.2) 2 (nI s'.1) = hTp h s' := by
  refine ms_ext (fun q => ?_) (fun i hi => ?_) rfl
  · by_cases k : q = 2
    · subst k; rw [fs_s, hTp_0]
    · rw [fs_n k, mRow_n (by omega), hTp_n k, hTp_n k]
  · rw [fs_r hi]
    by_cases k : i = 1
    · subst k; rw [mRow_s, hTp_1]
    · rw [mRow_n k, hTp_r hi k, hTp_r hi k]
theorem hTp_i {h : mS} {n : Nat} (e : h.1 0 2 = nI n) : hTp h (n, h.1 1) = h := by
  refine ms_ext (fun q => ?_) (fun i hi => ?_) rfl
  · by_cases k : q = 2
    · subst k; rw [hTp_0, e]
    · rw [hTp_n k]
  · by_cases k : i = 1
    · subst k; rw [hTp_1]
    · rw [hTp_r hi k]
def pN (a1 a2 a3 a4 a5 : Int32) (s : tp) : Nat → tp
  | 0 => s
  | i + 1 => putB (pN a1 a2 a3 a4 a5 s i) (byt a1 a2 a3 a4 a5 i)
theorem pN_1 (s : tp) (i : Nat) : (pN a1 a2 a3 a4 a5 s i).1 = s.1 + cN a1 a2 a3 a4 a5 i := by
  induction i with
  | zero => rfl
  | succ i ih =>
    show (putB (pN a1 a2 a3 a4 a5 s i) _).1 = s.1 + (cN a1 a2 a3 a4 a5 i + cB _)
    rw [putB_1, ih]
    omega
theorem pN_20 (s : tp) : pN a1 a2 a3 a4 a5 s 20 = putW (putW (putW (putW (putW s a1) a2) a3) a4) a5 := by
  simp only [pN, byt, wS, putW]
  simp
theorem M_put20 (hu : 1000 ≤ u) {h : mS} {n : Nat} (e : h.1 0 2 = nI n) (hn : n + cN a1 a2 a3 a4 a5 20 ≤ 240) : nx_iter u (fM_feed_62 u a1 a2 a3 a4 a5) (nI 0, h) = some (hTp h (pN a1 a2 a3 a4 a5 (n, h.1 1) 20)) := by
  have key : nx_iter u (fM_feed_62 u a1 a2 a3 a4 a5) (nI 0, hTp h (pN a1 a2 a3 a4 a5 (n, h.1 1) 0)) = some (hTp h (pN a1 a2 a3 a4 a5 (n, h.1 1) 20)) := by
    refine it_up (fun i => (nI i, hTp h (pN a1 a2 a3 a4 a5 (n, h.1 1) i))) 20 (fun i hi => ?_) ?_ (i := 0) (by omega) (by omega)
    · have hl := pN_1 (a1 := a1) (a2 := a2) (a3 := a3) (a4 := a4) (a5 := a5) (n, h.1 1) i
      have hm := cN_mono a1 a2 a3 a4 a5 (i + 1) (19 - i)
      rw [show i + 1 + (19 - i) = 20 by omega] at hm
      have hm2 : cN a1 a2 a3 a4 a5 (i + 1) = cN a1 a2 a3 a4 a5 i + cB (byt a1 a2 a3 a4 a5 i) := rfl
      unfold fM_feed_62
      simp (disch := omega) only [izN, leI, M_byteOf hi, Option.bind_some]
      rw [if_neg (by omega)]
      show _ = some (Sum.inl (nI (i + 1), hTp h (putB (pN a1 a2 a3 a4 a5 (n, h.1 1) i) (byt a1 a2 a3 a4 a5 i))))
      generalize pN a1 a2 a3 a4 a5 (n, h.1 1) i = s at hl ⊢
      dsimp only at hl
      unfold putB
      unfold cB at hm2
      by_cases e : byt a1 a2 a3 a4 a5 i = 0
      · rw [if_pos ((nb0 byt_lt).mpr e), if_pos e]
        simp only [Option.bind_some, nI_add]
      · rw [if_neg e] at hm2
        rw [if_neg (fun q => e ((nb0 byt_lt).mp q)), if_neg e, hTp_0, mWr1_at (by omega)]
        simp only [Option.bind_some]
        rw [mRow_n (by omega), hTp_0, nI_add, nI_add, hTp_1, hTp_m (s' := (s.1 + 1, upd s.2 s.1 (nI (byt a1 a2 a3 a4 a5 i))))]
    · unfold fM_feed_62
      simp (disch := omega) only [izN, leI]
      rw [if_pos (by omega)]
  rw [← key]
  show _ = nx_iter u _ (nI 0, hTp h (n, h.1 1))
  rw [hTp_i e]
theorem K_take (hu : 1000 ≤ u) {Γ : nx_G} {x A B n : Nat} {c : CS} {D : nx_M} (hc : CC Γ x A B c D) {a : Int32} (hn : csI c 0 = nI n) (hl : n + cW a ≤ 240) : ∃ c' D', (gR D x 7 0).bind (fun q8 => (gR D x 7 3).bind fun q9 => tWv2 Γ D q8 q9 (fun g => fT_take u g a)) = some D' ∧ CC Γ x A B c' D' ∧ cE c c' ∧ csI c' 0 = nI (putW (n, csR c 1) a).1 ∧ csR c' 1 = (putW (n, csR c 1) a).2 := by
  have e := T_take (u := u) (g := cG c) (a := a) (n := n) hu hn hl
  refine ⟨cT c (gTp (cG c) (putW (n, csR c 1) a)), _, ?_, hc.tw _, cT_E _ _, gTp_0 (g := cG c), gTp_1 (g := cG c)⟩
  rw [hc.1.r0, Option.bind_some, hc.1.r3, Option.bind_some]
  exact hc.tv2 (F := fun g => fT_take u g a) e
theorem K_take' (hu : 1000 ≤ u) {Γ : nx_G} {x A B : Nat} {c : CS} {D : nx_M} (hc : CC Γ x A B c D) {a : Int32} {s : tp} (hn : csI c 0 = nI s.1) (h1 : csR c 1 = s.2) (hl : s.1 + cW a ≤ 240) : ∃ c' D', (∀ (β : Type) (k : nx_M → Option β), ((gR D x 7 0).bind fun q8 => (gR D x 7 3).bind fun q9 => (tWv2 Γ D q8 q9 (fun g => fT_take u g a)).bind k) = k D') ∧ CC Γ x A B c' D' ∧ cE c c' ∧ csI c' 0 = nI (putW s a).1 ∧ csR c' 1 = (putW s a).2 := by
  obtain ⟨c', D', e, h2, h3, h4, h5⟩ := K_take hu hc hn hl
  rw [h1] at h4 h5
  refine ⟨c', D', fun β k => ?_, h2, h3, h4, h5⟩
  rw [hc.1.r0, Option.bind_some, hc.1.r3, Option.bind_some] at e ⊢
  rw [e]
  rfl
theorem B_feed {Γ : nx_G} {x A B : Nat} {Dm : nx_M} {g : mS} (a1 a2 a3 a4 a5 : Int32) (hu2 : 40000 ≤ u) (h : INV Γ x A B Dm g) : ∃ r Dm' g', fC_feed u Γ Dm x a1 a2 a3 a4 a5 = some (r, Dm') ∧ fM_feed u g a1 a2 a3 a4 a5 = some (r, g') ∧ INV Γ x A B Dm' g' := by
  have h0 := h
  obtain ⟨c, hc, hb, hs⟩ := h
  obtain ⟨⟨n, n1, n2, n3, n4, n5⟩, ⟨k, k1, k2, k3, k4⟩, b3, b4⟩ := id hb
  have hu : 1000 ≤ u := by omega
  have l1 := cW_le (a := a1)
  have l2 := cW_le (a := a2)
  have l3 := cW_le (a := a3)
  have l4 := cW_le (a := a4)
  have l5 := cW_le (a := a5)
  have e20 := cN_20 (a1 := a1) (a2 := a2) (a3 := a3) (a4 := a4) (a5 := a5)
  unfold fC_feed fM_feed
  simp only [izN]
  rw [T_bytes hu, T_bytes hu, T_bytes hu, T_bytes hu, T_bytes hu, M_count hu]
  simp only [Option.bind_some]
  rw [hc.1.r0, Option.bind_some, hc.1.tl, Option.bind_some, n2, n3, e20]
  simp only [nI_add]
  by_cases cc : n + (cW a1 + cW a2 + cW a3 + cW a4 + cW a5) ≤ 240
  · have cl : nI (n + (cW a1 + cW a2 + cW a3 + cW a4 + cW a5)) ≤ nI 240 := by rw [leI (by omega) (by omega)]; exact cc
    rw [if_pos cl, if_pos cl, M_put20 hu n3 (by omega), pN_20]
    obtain ⟨c1, D1, r1, hc1, E1, i1, t1⟩ := K_take' hu hc (a := a1) (s := (n, csR c 1)) n2 rfl (by show n + _ ≤ _; omega)
    obtain ⟨c2, D2, r2, hc2, E2, i2, t2⟩ := K_take' hu hc1 (a := a2) i1 t1 (by rw [putW_1]; show n + _ + _ ≤ _; omega)
    obtain ⟨c3, D3, r3, hc3, E3, i3, t3⟩ := K_take' hu hc2 (a := a3) i2 t2 (by rw [putW_1, putW_1]; show n + _ + _ + _ ≤ _; omega)
    obtain ⟨c4, D4, r4, hc4, E4, i4, t4⟩ := K_take' hu hc3 (a := a4) i3 t3 (by rw [putW_1, putW_1, putW_1]; show n + _ + _ + _ + _ ≤ _; omega)
    obtain ⟨c5, D5, r5, hc5, E5, i5, t5⟩ := K_take' hu hc4 (a := a5) i4 t4 (by rw [putW_1, putW_1, putW_1, putW_1]; show n + _ + _ + _ + _ + _ ≤ _; omega)
    have hbytes := putW_ok (a := a5) (putW_ok (a := a4) (putW_ok (a := a3) (putW_ok (a := a2) (putW_ok (s := (n, g.1 1)) (a := a1) n5))))
    have hlen : (putW (putW (putW (putW (putW (n, csR c 1) a1) a2) a3) a4) a5).1 = n + cW a1 + cW a2 + cW a3 + cW a4 + cW a5 := by rw [putW_1, putW_1, putW_1, putW_1, putW_1]
    rw [← n4] at hbytes ⊢
    generalize putW (putW (putW (putW (putW (n, csR c 1) a1) a2) a3) a4) a5 = s at i5 t5 hbytes hlen ⊢
    refine ⟨nI s.1, D5, hTp g s, ?_, ?_, INV.tx hc hb hs hc5 (E1.tr (E2.tr (E3.tr (E4.tr E5)))) k3 k1 ⟨fun i h0 h1 _ _ _ _ => hTp_r h0 h1, fun q h2 _ _ _ => hTp_n h2, rfl, fun j _ => by rw [hTp_r (by omega) (by omega)], fun j _ => by rw [hTp_r (by omega) (by omega)]⟩ ⟨s.1, by omega, i5, hTp_0, by rw [hTp_1]; exact t5, by rw [hTp_1]; exact hbytes⟩⟩
    · rw [← hc.1.r0, r1, r2, r3, r4, r5, hc5.1.r0, Option.bind_some, hc5.1.tl, Option.bind_some, i5]
    · simp only [Option.bind_some, hTp_0]
  · have cl : ¬ nI (n + (cW a1 + cW a2 + cW a3 + cW a4 + cW a5)) ≤ nI 240 := by rw [leI (by omega) (by omega)]; exact cc
    rw [if_neg cl, if_neg cl]
    exact ⟨_, Dm, g, rfl, rfl, h0⟩
end FEED
