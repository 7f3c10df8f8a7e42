/-! ===== a store begins ===== -/
def T0 (K : Nat) (val : Nat → Int32) : ET := (fun _ _ => nI 0, fun _ _ => nI 0, fun k => if k < K then [(nI 0, val k, nI 0, iz (-1))] else [], nI 0, nI 0, [], [], nI 0)
theorem T0_v {K : Nat} {val : Nat → Int32} {k : Nat} (h : k < K) : tVs (T0 K val) k = [(nI 0, val k, nI 0, iz (-1))] := if_pos h
theorem T0_e {K : Nat} {val : Nat → Int32} {k : Nat} (h : ¬ k < K) : tVs (T0 K val) k = [] := if_neg h
theorem T0_lv {K : Nat} {val : Nat → Int32} {s : Nat} : lvT (T0 K val) s = false := lv_nz rfl
theorem n0i : (nI 0).toInt = 0 := by decide +kernel
theorem T0_EI {K : Nat} {val : Nat → Int32} {r0 r1 r2 : Int32} (hK : 1 ≤ K) (hK6 : K ≤ 6) (h0 : ∃ a, 2 ≤ a ∧ a ≤ 9 ∧ r0 = nI a) (h2 : ∃ a, 2 ≤ a ∧ a ≤ 20 ∧ r2 = nI a) : EI (K, r0, r1, r2) (fun _ => []) (T0 K val) := by
  have hv : ∀ k i, i < (tVs (T0 K val) k).length → k < K ∧ i = 0 ∧ vA (T0 K val) k i = (nI 0, val k, nI 0, iz (-1)) := fun k i hi => by
    by_cases c : k < K
    · rw [T0_v c] at hi
      have : i = 0 := by simpa using hi
      subst this
      refine ⟨c, rfl, ?_⟩
      unfold vA
      rw [T0_v c]
      rfl
    · rw [T0_e c] at hi
      simp at hi
  have hu : usd (K, r0, r1, r2) (T0 K val) (nI 0) := ⟨by rw [n0i]; omega, by show _ ≤ (nI 0).toInt; omega, Or.inl ⟨0, by rw [n0i]; simp⟩⟩
  refine ⟨⟨⟨hK, hK6, h0, h2⟩, ⟨fun k hk i j hij hj => ?_, fun k hk hk6 => T0_e (by omega), fun k hk => ⟨0, ?_, ?_, ?_⟩, fun k i hk hi => ?_, fun k i s hk hi hs hl => ?_, fun k i hk hi => ?_, fun k hk => ?_⟩, ⟨fun s hs hl => ?_, fun s o hs ho hl => ?_, fun s o hs hb => ?_, fun s hs => Or.inl rfl, fun s hs => ⟨0, by omega, rfl⟩⟩, ?_⟩, fun s hs d hd => ?_, fun _ _ _ => rfl, fun s hs => ⟨0, by omega, rfl⟩, fun e he => ?_⟩
  · have := hv k i (by omega)
    have := hv k j hj
    omega
  · rw [T0_v hk]; simp
  · rw [(hv k 0 (by rw [T0_v hk]; simp)).2.2]
  · rw [(hv k 0 (by rw [T0_v hk]; simp)).2.2]
    show nI 0 ≤ nI 0
    rw [leI (by omega) (by omega)]
    omega
  · rw [(hv k i hi).2.2]; exact Or.inl rfl
  · rw [T0_lv] at hl; cases hl
  · rw [(hv k i hi).2.2]
    refine ⟨hu, ?_, ?_⟩
    · show (nI 0).toInt ≤ (nI 0).toInt; omega
    · show (nI 0).toInt ≤ (nI 0).toInt; omega
  · obtain ⟨a, a1, a2, rfl⟩ := h0
    show _ ≤ (nI a).toInt
    rw [toI (by omega)]
    by_cases c : k < K
    · rw [T0_v c]; simp; omega
    · rw [T0_e c]; simp
  · rw [T0_lv] at hl; cases hl
  · rw [T0_lv] at hl; cases hl
  · have hb : tb (nI 0) o = true := hb
    rw [tb_0] at hb; cases hb
  · refine ⟨?_, ?_, ⟨0, ?_⟩, ?_, ?_, ?_⟩
    · show 0 ≤ (nI 0).toInt; rw [n0i]; omega
    · show (nI 0).toInt ≤ _; rw [n0i]; omega
    · show (nI 0).toInt = _; rw [n0i]; simp
    · show 0 ≤ (nI 0).toInt; rw [n0i]; omega
    · show (nI 0).toInt ≤ (nI 0).toInt; omega
    · show (0 : Nat) ≤ 30; omega
  · cases hd
  · cases he
/-- World's row at the beginning -/
def fB (K : Nat) (r : Nat → Int32) (val : Nat → Int32) (f : Nat → Int32) : Prop := (∀ j, j < 3 → f j = r j) ∧ f 3 = nI K ∧ (∀ k, k < K → f (232 + k) = nI 1 ∧ f (292 + k * 9) = val k ∧ f (400 + k * 9) = iz (-1)) ∧ (∀ k, K ≤ k → k < 6 → f (232 + k) = nI 0) ∧ (∀ j, 4 ≤ j → j < 232 → f j = nI 0) ∧ (∀ j, 238 ≤ j → j < 292 → f j = nI 0) ∧ ∀ j, 346 ≤ j → j < 400 → f j = nI 0
theorem fB.RW {K : Nat} {r val f : Nat → Int32} (hK : K ≤ 6) (h : fB K r val f) : RW (K, r 0, r 1, r 2) (nI 0) (fun _ => []) f (T0 K val) := by
  obtain ⟨h1, h2, h3, h4, h5, h6, h7⟩ := h
  refine ⟨⟨h1 0 (by omega), h1 1 (by omega), h1 2 (by omega), h2⟩, h5 4 (by omega) (by omega), h5 5 (by omega) (by omega), ?_, ⟨by show (0 : Nat) ≤ 30; omega, h5 7 (by omega) (by omega), fun i v hi => by have hi : ([] : List Int32)[i]? = some v := hi; simp at hi⟩, fun c s hc hs => h5 _ (by omega) (by omega), fun s k hs hk => h5 _ (by omega) (by omega), fun s hs => ⟨by simp, h5 _ (by omega) (by omega), fun i d hi => by simp at hi⟩, fun k hk => ?_, ⟨by show (0 : Nat) ≤ 60; omega, h5 8 (by omega) (by omega), 0, by omega, h5 9 (by omega) (by omega), fun i e hi => by have hi : ([] : List De)[i]? = some e := hi; simp at hi⟩⟩
  · rw [h5 6 (by omega) (by omega)]
    show nI 0 = nI 0 + nI 0
    rw [nI_add]
  · by_cases c : k < K
    · obtain ⟨a1, a2, a3⟩ := h3 k c
      rw [T0_v c]
      refine ⟨by simp, a1, fun i v hi => ?_⟩
      have i0 : i = 0 := by
        have := (List.getElem?_eq_some_iff.mp hi).1
        simpa using this
      subst i0
      have : v = (nI 0, val k, nI 0, iz (-1)) := by simpa using hi.symm
      subst this
      exact ⟨h6 _ (by omega) (by omega), a2, h7 _ (by omega) (by omega), a3⟩
    · rw [T0_e c]
      exact ⟨by simp, h4 k (by omega) hk, fun i v hi => by simp at hi⟩
def hB (K : Nat) (val : Nat → Int32) (h : Nat → Int32) : Prop := (∀ j, j < 384 → h j = nI 0) ∧ (∀ j, 606 ≤ j → j < 820 → h j = nI 0) ∧ (∀ k, k < K → h (384 + 37 * k) = nI 1 ∧ h (384 + 37 * k + 1) = nI 0 ∧ h (384 + 37 * k + 2) = val k ∧ h (384 + 37 * k + 3) = nI 0 ∧ h (384 + 37 * k + 4) = iz (-1)) ∧ ∀ k, K ≤ k → k < 6 → h (384 + 37 * k) = nI 0
theorem hB.rM {K : Nat} {val h : Nat → Int32} (hK : K ≤ 6) (hh : hB K val h) : rM none (fun _ => []) h (T0 K val) := by
  obtain ⟨h1, h2, h3, h4⟩ := hh
  refine ⟨h2 _ (by omega) (by omega), h2 _ (by omega) (by omega), ⟨by show (0 : Nat) ≤ 30; omega, h2 _ (by omega) (by omega), fun i v hi => by have hi : ([] : List Int32)[i]? = some v := hi; simp at hi⟩, fun c s hc hs => h1 _ (by omega), fun s k hs hk => h1 _ (by omega), fun s hs => ⟨by simp, h1 _ (by omega), fun i d hi => by simp at hi⟩, fun k hk => ?_, ⟨by show (0 : Nat) ≤ 60; omega, h2 _ (by omega) (by omega), fun i e hi => by have hi : ([] : List De)[i]? = some e := hi; simp at hi⟩⟩
  by_cases c : k < K
  · obtain ⟨a0, a1, a2, a3, a4⟩ := h3 k c
    rw [T0_v c]
    refine ⟨by simp, a0, fun i v hi => ?_⟩
    have i0 : i = 0 := by
      have := (List.getElem?_eq_some_iff.mp hi).1
      simpa using this
    subst i0
    have : v = (nI 0, val k, nI 0, iz (-1)) := by simpa using hi.symm
    subst this
    exact ⟨a1, a2, a3, a4⟩
  · rw [T0_e c]
    exact ⟨by simp, h4 k (by omega) hk, fun i v hi => by simp at hi⟩
/-! World.begin in memory -/
theorem wPut_m {Γ : nx_G} {D : nx_M} {c : Nat} {f f' : Nat → Int32} : wPut Γ (wPut Γ D c f) c f' = wPut Γ D c f' := by
  unfold wPut nx_put
  refine Prod.ext (funext fun b => ?_) rfl
  dsimp only
  by_cases e : b = c <;> simp [e]
theorem wPut_i {Γ : nx_G} {D : nx_M} {c : Nat} {f : Nat → Int32} (h : D.1 c = some (rowE Γ 514 f)) : wPut Γ D c f = D := by
  unfold wPut nx_put
  refine Prod.ext (funext fun b => ?_) rfl
  dsimp only
  by_cases e : b = c
  · rw [if_pos e, e, h]; rfl
  · rw [if_neg e]
section BEG
variable {Γ : nx_G} {x u : Nat} {c : CS} {D : nx_M}
theorem bg (h : CM Γ x c D) (f : Nat → Int32) : CM Γ x (cW' c (x + 9) f) (wPut Γ D (x + 10) f) := h.w WA_9 f
theorem bg1 (h : CM Γ x c D) (f : Nat → Int32) : gR (wPut Γ D (x + 10) f) (x + 9) 6 0 = some (x + 10) := by
  unfold gR
  rw [(bg h f).go6 WA_9]
  rfl
theorem bg2 (h : CM Γ x c D) (f : Nat → Int32) {i : Nat} (hi : i < 514) (v : Int32) : aIw Γ (wPut Γ D (x + 10) f) (x + 10) (nI i) v = some (wPut Γ D (x + 10) (upd f i v)) := by
  have e : (wPut Γ D (x + 10) f).1 (x + 10) = some (rowE Γ 514 f) := put_s
  unfold aIw
  rw [aF_row e, Option.bind_some]
  show (nx_wr 514 f (nI i) v).bind _ = _
  rw [wr_nI hi (by omega), Option.bind_some]
  exact congrArg some wPut_m
theorem bg3 (h : CM Γ x c D) (f : Nat → Int32) : gR (wPut Γ D (x + 10) f) (x + 3) 4 0 = some (x + 4) := (bg h f).gr (j := 3) fxJ3 rfl rfl
theorem bg6 (h : CM Γ x c D) (f : Nat → Int32) : gR (wPut Γ D (x + 10) f) (x + 3) 4 1 = some (x + 5) := (bg h f).gr (j := 3) fxJ3 rfl rfl
theorem bg5 (h : CM Γ x c D) (f : Nat → Int32) : gI (wPut Γ D (x + 10) f) (x + 3) 4 2 = some (csI c 3) := (bg h f).gi (j := 3) fxJ3 rfl rfl
theorem bg4 (h : CM Γ x c D) (f : Nat → Int32) {i : Nat} (hi : i < 3) : aI Γ (wPut Γ D (x + 10) f) (x + 4) (nI i) = some (csR c 2 i) := by
  unfold aI
  rw [aF_row ((bg h f).1 4 fxJ4)]
  exact rd_nI hi (show (3 : Nat) ≤ 100000 by omega)
theorem bg7 (h : CM Γ x c D) (f : Nat → Int32) {i : Nat} (hi : i < 6) : aI Γ (wPut Γ D (x + 10) f) (x + 5) (nI i) = some (csR c 3 i) := by
  unfold aI
  rw [aF_row ((bg h f).1 5 fxJ5)]
  exact rd_nI hi (show (6 : Nat) ≤ 100000 by omega)
theorem bgL1 (h : CM Γ x c D) (hu : 1000 ≤ u) : ok (nx_iter u (fW_begin_2 Γ (x + 9)) (nI 0, D)) (fun D' => ∃ f, D' = wPut Γ D (x + 10) f ∧ ∀ j, j < 514 → f j = nI 0) := by
  refine it_inv (fun i s => s.1 = nI i ∧ ∃ f, s.2 = wPut Γ D (x + 10) f ∧ ∀ j, j < i → f j = nI 0) 514 (fun i s hi hI => ?_) (fun s hI => ?_) (i := 0) ⟨rfl, csW c (x + 9), (wPut_i (h.2.1 _ WA_9).2).symm, fun j hj => by omega⟩ (by omega) (by omega)
  · obtain ⟨e1, f, e2, hf⟩ := hI
    unfold fW_begin_2
    rw [e1, e2]
    simp (disch := omega) only [izN, leI, bg1 h, bg2 h, Option.bind_some, nI_add]
    rw [if_neg (by omega)]
    refine ok.ret ⟨rfl, _, rfl, fun j hj => ?_⟩
    by_cases e : j = i
    · rw [upd_e e]
    · rw [upd_n e]; exact hf j (by omega)
  · obtain ⟨e1, f, e2, hf⟩ := hI
    unfold fW_begin_2
    rw [e1]
    simp (disch := omega) only [izN, leI]
    rw [if_pos (by omega)]
    exact ok.ret ⟨f, e2, hf⟩
theorem bgL2 (h : CM Γ x c D) (hu : 1000 ≤ u) {f0 : Nat → Int32} (h0 : ∀ j, j < 514 → f0 j = nI 0) : ok (nx_iter u (fW_begin_24 Γ (x + 9) (x + 3)) (nI 0, wPut Γ D (x + 10) f0)) (fun D' => ∃ f, D' = wPut Γ D (x + 10) f ∧ (∀ j, j < 3 → f j = csR c 2 j) ∧ ∀ j, 3 ≤ j → j < 514 → f j = nI 0) := by
  refine it_inv (fun i s => s.1 = nI i ∧ ∃ f, s.2 = wPut Γ D (x + 10) f ∧ (∀ j, j < i → f j = csR c 2 j) ∧ ∀ j, 3 ≤ j → j < 514 → f j = nI 0) 3 (fun i s hi hI => ?_) (fun s hI => ?_) (i := 0) ⟨rfl, f0, rfl, fun j hj => by omega, fun j _ hj => h0 j hj⟩ (by omega) (by omega)
  · obtain ⟨e1, f, e2, hf, hz⟩ := hI
    unfold fW_begin_24
    rw [e1, e2]
    simp (disch := omega) only [izN, leI, bg1 h, bg2 h, bg3 h, bg4 h, Option.bind_some, nI_add, Nat.zero_add]
    rw [if_neg (by omega)]
    refine ok.ret ⟨rfl, _, rfl, fun j hj => ?_, fun j h3 hj => ?_⟩
    · by_cases e : j = i
      · rw [upd_e e, e]
      · rw [upd_n e]; exact hf j (by omega)
    · rw [upd_n (by omega)]; exact hz j h3 hj
  · obtain ⟨e1, f, e2, hf, hz⟩ := hI
    unfold fW_begin_24
    rw [e1]
    simp (disch := omega) only [izN, leI]
    rw [if_pos (by omega)]
    exact ok.ret ⟨f, e2, hf, hz⟩
theorem bgL3 (h : CM Γ x c D) (hu : 1000 ≤ u) {K : Nat} (hK : K ≤ 6) (hk : csI c 3 = nI K) {f0 : Nat → Int32} (h0 : ∀ j, j < 3 → f0 j = csR c 2 j) (h1 : f0 3 = nI K) (h2 : ∀ j, 4 ≤ j → j < 514 → f0 j = nI 0) : ok (nx_iter u (fW_begin_61 Γ (x + 9) (x + 3)) (nI 0, wPut Γ D (x + 10) f0)) (fun D' => ∃ f, D' = wPut Γ D (x + 10) f ∧ fB K (csR c 2) (csR c 3) f) := by
  refine it_inv (fun i s => s.1 = nI i ∧ ∃ f, s.2 = wPut Γ D (x + 10) f ∧ (∀ j, j < 3 → f j = csR c 2 j) ∧ f 3 = nI K ∧ (∀ k, k < i → f (232 + k) = nI 1 ∧ f (292 + k * 9) = csR c 3 k ∧ f (400 + k * 9) = iz (-1)) ∧ (∀ k, i ≤ k → k < 6 → f (232 + k) = nI 0) ∧ (∀ j, 4 ≤ j → j < 232 → f j = nI 0) ∧ (∀ j, 238 ≤ j → j < 292 → f j = nI 0) ∧ ∀ j, 346 ≤ j → j < 400 → f j = nI 0) K (fun i s hi hI => ?_) (fun s hI => ?_) (i := 0) ⟨rfl, f0, rfl, h0, h1, fun k hk => by omega, fun k _ hk => h2 _ (by omega) (by omega), fun j a b => h2 j a (by omega), fun j a b => h2 j (by omega) (by omega), fun j a b => h2 j (by omega) (by omega)⟩ (by omega) (by omega)
  · obtain ⟨e1, f, e2, g1, g2, g3, g4, g5, g6, g7⟩ := hI
    unfold fW_begin_61
    rw [e1, e2]
    simp (disch := omega) only [izN, leI, bg1 h, bg2 h, bg5 h, bg6 h, bg7 h, hk, Option.bind_some, nI_add, mulI]
    rw [if_neg (by omega), if_neg (by omega)]
    refine ok.ret ⟨rfl, _, rfl, fun j hj => ?_, ?_, fun k hk => ?_, fun k hk hk6 => ?_, fun j a b => ?_, fun j a b => ?_, fun j a b => ?_⟩
    · rw [upd_n (by omega), upd_n (by omega), upd_n (by omega)]; exact g1 j hj
    · rw [upd_n (by omega), upd_n (by omega), upd_n (by omega)]; exact g2
    · by_cases e : k = i
      · subst e
        refine ⟨?_, ?_, ?_⟩
        · rw [upd_n (by omega), upd_n (by omega), upd_s]
        · rw [upd_n (by omega), upd_s]
        · rw [upd_s]
      · obtain ⟨a1, a2, a3⟩ := g3 k (by omega)
        refine ⟨?_, ?_, ?_⟩
        · rw [upd_n (by omega), upd_n (by omega), upd_n (by omega)]; exact a1
        · rw [upd_n (by omega), upd_n (by omega), upd_n (by omega)]; exact a2
        · rw [upd_n (by omega), upd_n (by omega), upd_n (by omega)]; exact a3
    · rw [upd_n (by omega), upd_n (by omega), upd_n (by omega)]; exact g4 k (by omega) hk6
    · rw [upd_n (by omega), upd_n (by omega), upd_n (by omega)]; exact g5 j a b
    · rw [upd_n (by omega), upd_n (by omega), upd_n (by omega)]; exact g6 j a b
    · rw [upd_n (by omega), upd_n (by omega), upd_n (by omega)]; exact g7 j a b
  · obtain ⟨e1, f, e2, g1, g2, g3, g4, g5, g6, g7⟩ := hI
    unfold fW_begin_61
    rw [e1, e2]
    simp (disch := omega) only [izN, leI, bg5 h, hk, Option.bind_some]
    rw [if_pos (Nat.le_refl K), ite_self]
    exact ok.ret ⟨f, rfl, g1, g2, g3, g4, g5, g6, g7⟩
theorem C_begins (h : CM Γ x c D) (hu : 1000 ≤ u) {K : Nat} (hK : K ≤ 6) (hk : csI c 3 = nI K) : ∃ f, fW_begin u Γ D (x + 9) (x + 3) = some (wPut Γ D (x + 10) f) ∧ fB K (csR c 2) (csR c 3) f := by
  obtain ⟨D1, e1, f1, rfl, a1⟩ := bgL1 (u := u) h hu
  obtain ⟨D2, e2, f2, rfl, a2, a3⟩ := bgL2 (u := u) h hu a1
  obtain ⟨D3, e3, f3, rfl, a4⟩ := bgL3 (u := u) h hu hK hk (f0 := upd f2 3 (nI K)) (fun j hj => by rw [upd_n (by omega)]; exact a2 j hj) upd_s (fun j h4 hj => by rw [upd_n (by omega)]; exact a3 j (by omega) hj)
  refine ⟨f3, ?_, a4⟩
  unfold fW_begin
  simp only [izN]
  rw [e1, Option.bind_some, e2, Option.bind_some, bg1 h, Option.bind_some, bg5 h, Option.bind_some, hk, bg2 h _ (by omega), Option.bind_some, e3]
  rfl
end BEG
