/-! ===== a store begins, in the Model ===== -/
theorem mWr4_at {m : Nat} {g : mS} {v : Int32} (hm : m < 3) : mWr g 4 (nI m) v = some (mRow g 4 (upd (g.1 4) m v)) := mWr_at (show m < mlen 4 from hm) (show (3 : Nat) ≤ 100000 by omega)
theorem rdm2 {m : Nat} {f : Nat → Int32} (hm : m < 3) : nx_rd (mlen 2) f (nI m) = some (f m) := rd_nI (show m < mlen 2 from hm) (show (3 : Nat) ≤ 100000 by omega)
theorem rdm3 {m : Nat} {f : Nat → Int32} (hm : m < 6) : nx_rd (mlen 3) f (nI m) = some (f m) := rd_nI (show m < mlen 3 from hm) (show (6 : Nat) ≤ 100000 by omega)
theorem tsL1 {u : Nat} (hu : 1000 ≤ u) (g : mS) : ok (nx_iter u fM_takeStore_10 (nI 0, g)) (fun g' => ∃ a, g' = mRow g 4 a ∧ ∀ j, j < 3 → a j = g.1 2 j) := by
  refine it_inv (fun i s => s.1 = nI i ∧ ∃ a, s.2 = mRow g 4 a ∧ ∀ j, j < i → a j = g.1 2 j) 3 (fun i s hi hI => ?_) (fun s hI => ?_) (i := 0) ⟨rfl, g.1 4, mRow_i.symm, fun j hj => by omega⟩ (by omega) (by omega)
  · obtain ⟨e1, a, e2, ha⟩ := hI
    have es : (mRow g 4 a).1 4 = a := mRow_s
    have e3 : (mRow g 4 a).1 2 = g.1 2 := mRow_n (by omega)
    unfold fM_takeStore_10
    rw [e1, e2]
    simp (disch := omega) only [izN, leI, rdm2, e3, Option.bind_some, nI_add, mWr4_at, es, mRow_m]
    rw [if_neg (by omega)]
    refine ok.ret ⟨rfl, _, rfl, fun j hj => ?_⟩
    by_cases e : j = i
    · rw [upd_e e, e]
    · rw [upd_n e]; exact ha j (by omega)
  · obtain ⟨e1, a, e2, ha⟩ := hI
    unfold fM_takeStore_10
    rw [e1]
    simp (disch := omega) only [izN, leI]
    rw [if_pos (by omega)]
    exact ok.ret ⟨a, e2, ha⟩
theorem tsL2 {u : Nat} (hu : 1000 ≤ u) (g : mS) : ok (nx_iter u fM_takeStore_35 (nI 0, g)) (fun g' => ∃ a, g' = mRow g 7 a ∧ ∀ j, j < 820 → a j = nI 0) := by
  refine it_inv (fun i s => s.1 = nI i ∧ ∃ a, s.2 = mRow g 7 a ∧ ∀ j, j < i → a j = nI 0) 820 (fun i s hi hI => ?_) (fun s hI => ?_) (i := 0) ⟨rfl, g.1 7, mRow_i.symm, fun j hj => by omega⟩ (by omega) (by omega)
  · obtain ⟨e1, a, e2, ha⟩ := hI
    have es : (mRow g 7 a).1 7 = a := mRow_s
    unfold fM_takeStore_35
    rw [e1, e2]
    simp (disch := omega) only [izN, leI, Option.bind_some, nI_add, mWr7, es, mRow_m]
    rw [if_neg (by omega)]
    refine ok.ret ⟨rfl, _, rfl, fun j hj => ?_⟩
    by_cases e : j = i
    · rw [upd_e e]
    · rw [upd_n e]; exact ha j (by omega)
  · obtain ⟨e1, a, e2, ha⟩ := hI
    unfold fM_takeStore_35
    rw [e1]
    simp (disch := omega) only [izN, leI]
    rw [if_pos (by omega)]
    exact ok.ret ⟨a, e2, ha⟩
theorem tsL3 {u : Nat} (hu : 1000 ≤ u) (g : mS) {K : Nat} (hK : K ≤ 6) (h9 : g.1 0 9 = nI K) {a0 : Nat → Int32} (h0 : ∀ j, j < 820 → a0 j = nI 0) : ok (nx_iter u (fM_takeStore_57 u) (nI 0, mRow g 7 a0)) (fun g' => ∃ a, g' = mRow g 7 a ∧ hB K (g.1 3) a) := by
  refine it_inv (fun i s => s.1 = nI i ∧ ∃ a, s.2 = mRow g 7 a ∧ (∀ j, j < 384 → a j = nI 0) ∧ (∀ j, 606 ≤ j → j < 820 → a j = nI 0) ∧ (∀ k, k < i → a (384 + 37 * k) = nI 1 ∧ a (384 + 37 * k + 1) = nI 0 ∧ a (384 + 37 * k + 2) = g.1 3 k ∧ a (384 + 37 * k + 3) = nI 0 ∧ a (384 + 37 * k + 4) = iz (-1)) ∧ ∀ k w, i ≤ k → k < 6 → w < 37 → a (384 + 37 * k + w) = nI 0) K (fun i s hi hI => ?_) (fun s hI => ?_) (i := 0) ⟨rfl, a0, rfl, fun j hj => h0 j (by omega), fun j _ hj => h0 j hj, fun k hk => by omega, fun k w _ hk hw => h0 _ (by omega)⟩ (by omega) (by omega)
  · obtain ⟨e1, a, e2, g1, g2, g3, g4⟩ := hI
    have es : (mRow g 7 a).1 7 = a := mRow_s
    have e9 : (mRow g 7 a).1 0 9 = nI K := by rw [mRow_n (by omega)]; exact h9
    have e3 : ∀ b, (mRow g 7 b).1 3 = g.1 3 := fun b => mRow_n (by omega)
    unfold fM_takeStore_57
    rw [e1, e2]
    simp (disch := omega) only [e9, fM_keyAt, fM_cell, izN, leI, Option.bind_some, nI_add, mulI, mWr7, es, mRow_m, mRow_s, e3, rdm3]
    rw [if_neg (by omega)]
    refine ok.ret ⟨rfl, _, rfl, fun j hj => ?_, fun j a b => ?_, fun k hk => ?_, fun k w hk hk6 hw => ?_⟩
    · rw [upd_n (by omega), upd_n (by omega), upd_n (by omega)]; exact g1 j hj
    · rw [upd_n (by omega), upd_n (by omega), upd_n (by omega)]; exact g2 j a b
    · by_cases e : k = i
      · subst e
        refine ⟨?_, ?_, ?_, ?_, ?_⟩
        · rw [upd_n (by omega), upd_n (by omega), upd_e (by omega)]
        · rw [upd_n (by omega), upd_n (by omega), upd_n (by omega)]; exact g4 k 1 (by omega) (by omega) (by omega)
        · rw [upd_n (by omega), upd_e (by omega)]
        · rw [upd_n (by omega), upd_n (by omega), upd_n (by omega)]; exact g4 k 3 (by omega) (by omega) (by omega)
        · rw [upd_e (by omega)]
      · obtain ⟨a1, a2, a3, a4, a5⟩ := g3 k (by omega)
        refine ⟨?_, ?_, ?_, ?_, ?_⟩
        · rw [upd_n (by omega), upd_n (by omega), upd_n (by omega)]; exact a1
        · rw [upd_n (by omega), upd_n (by omega), upd_n (by omega)]; exact a2
        · rw [upd_n (by omega), upd_n (by omega), upd_n (by omega)]; exact a3
        · rw [upd_n (by omega), upd_n (by omega), upd_n (by omega)]; exact a4
        · rw [upd_n (by omega), upd_n (by omega), upd_n (by omega)]; exact a5
    · rw [upd_n (by omega), upd_n (by omega), upd_n (by omega)]; exact g4 k w (by omega) hk6 hw
  · obtain ⟨e1, a, e2, g1, g2, g3, g4⟩ := hI
    have e9 : (mRow g 7 a).1 0 9 = nI K := by rw [mRow_n (by omega)]; exact h9
    unfold fM_takeStore_57
    rw [e1, e2]
    simp (disch := omega) only [e9, leI]
    rw [if_pos (Nat.le_refl K)]
    exact ok.ret ⟨a, rfl, g1, g2, g3, fun k hk hk6 => g4 k 0 hk hk6 (by omega)⟩
/-- .. whole: rows 4 and 7, the numbers 9, 19, 26 -/
theorem M_takeStore {u : Nat} (hu : 1000 ≤ u) (g : mS) {K : Nat} (hK : K ≤ 6) (h7 : g.1 0 7 = nI K) : ∃ g', fM_takeStore u g = some (nI K, g') ∧ (∀ i, i ≠ 0 → i ≠ 4 → i ≠ 7 → g'.1 i = g.1 i) ∧ (∀ q, q ≠ 9 → q ≠ 19 → q ≠ 26 → g'.1 0 q = g.1 0 q) ∧ g'.2 = g.2 ∧ g'.1 0 9 = nI K ∧ g'.1 0 19 = nI 0 ∧ g'.1 0 26 = nI 0 ∧ (∀ j, j < 3 → g'.1 4 j = g.1 2 j) ∧ hB K (g.1 3) (g'.1 7) := by
  obtain ⟨_, e1, a, rfl, ha⟩ := tsL1 (u := u) hu (mFs g 9 (nI K))
  obtain ⟨_, e2, b, rfl, hb⟩ := tsL2 (u := u) hu (mRow (mFs g 9 (nI K)) 4 a)
  have k9 : (mRow (mFs g 9 (nI K)) 4 a).1 0 9 = nI K := by rw [mRow_n (by omega)]; exact fs_s
  obtain ⟨_, e3, d, rfl, hd⟩ := tsL3 (u := u) hu (mRow (mFs g 9 (nI K)) 4 a) hK k9 hb
  have r3 : (mRow (mFs g 9 (nI K)) 4 a).1 3 = g.1 3 := by rw [mRow_n (by omega), fs_r (by omega)]
  rw [r3] at hd
  refine ⟨mFs (mFs (mRow (mRow (mFs g 9 (nI K)) 4 a) 7 d) 19 (nI 0)) 26 (nI 0), ?_, fun i h0 h4 h7 => ?_, fun q h9 h19 h26 => ?_, rfl, ?_, ?_, ?_, fun j hj => ?_, ?_⟩
  · unfold fM_takeStore
    simp only [izN, Option.bind_some]
    rw [h7, e1]
    simp only [Option.bind_some]
    rw [e2]
    simp only [Option.bind_some]
    rw [e3]
    simp only [Option.bind_some]
    rw [fs_n (by omega), fs_n (by omega), mRow_n (by omega), k9]
  · rw [fs_r h0, fs_r h0, mRow_n h7, mRow_n h4, fs_r h0]
  · rw [fs_n h26, fs_n h19, mRow_n (by omega), mRow_n (by omega), fs_n h9]
  · rw [fs_n (by omega), fs_n (by omega), mRow_n (by omega), k9]
  · rw [fs_n (by omega), fs_s]
  · rw [fs_s]
  · rw [fs_r (by omega), fs_r (by omega), mRow_n (by omega), mRow_s, ha j hj, fs_r (by omega)]
  · rw [fs_r (by omega), fs_r (by omega), mRow_s]; exact hd
