/-! ===== texts: numbers on both sides ===== -/
/-- class and Model read the same text, from places that come to the same -/
def pOk (n : Nat) (g : pS) (h : mS) : Prop := g 1 = h.1 1 ∧ h.1 0 4 = iz (-1) ∧ ∃ p q, clT n p g ∧ mlT n q h ∧ skT (g 1) n p = skT (g 1) n q
def pBd (n : Nat) (g : pS) (h : mS) : Prop := ∃ p, p ≤ n ∧ g 0 1 = nI p ∧ h.1 0 4 = nI p
theorem pOk.at {n p : Nat} {g : pS} {h : mS} (h1 : g 1 = h.1 1) (h2 : h.1 0 4 = iz (-1)) (hc : clT n p g) (hm : mlT n p h) : pOk n g h := ⟨h1, h2, p, p, hc, hm, rfl⟩
section TXU
variable {u n : Nat} {g : pS} {h : mS}
theorem TM_next (hu : 1000 ≤ u) (ho : pOk n g h) : ∃ q g' h', fT_nextSign u g = some (sgn (g 1) n q, g') ∧ fM_ahead u h = some (sgn (g 1) n q, h') ∧ clT n q g' ∧ mlT n q h' ∧ gT g g' ∧ hA h h' ∧ skT (g 1) n q = q ∧ g' 1 = g 1 ∧ h'.1 1 = g 1 ∧ h'.1 0 4 = iz (-1) := by
  obtain ⟨ht, hw, p, q, hc, hm, e⟩ := ho
  obtain ⟨⟨s1, g1⟩, e1, r1, c1, f1⟩ := T_next hu hc
  obtain ⟨⟨s2, h1⟩, e2, r2, m1, k1⟩ := M_next hu hm
  dsimp only at r1 r2 c1 m1 f1 k1
  rw [← ht, ← e] at r2 m1
  rw [r1] at e1
  rw [r2] at e2
  exact ⟨_, g1, h1, e1, e2, c1, m1, f1, k1, skT_i hc.2.2.2, f1.1 1 (by omega), (k1.1 1 (by omega)).trans ht.symm, (k1.2.1 4 (by omega)).trans hw⟩
def NP (n lo hi : Nat) (g g' : pS) (h h' : mS) (b : Bool) (v : Int32) : Prop := gT g g' ∧ hT h h' ∧ ((b = true ∧ pOk n g' h' ∧ ∃ m, lo ≤ m ∧ m ≤ hi ∧ v = nI m ∧ g' 0 2 = nI m) ∨ (b = false ∧ pBd n g' h'))
theorem NP_end {G : pS} {H : mS} {q v lo hi : Nat} (ht : g 1 = h.1 1) (fg : gT g G) (fh : hT h H) (cG : clT n (q + 1) G) (mH : mlT n (q + 1) H) (hw : H.1 0 4 = iz (-1)) (h2 : G 0 2 = nI v) : NP n lo hi g (if lo ≤ v ∧ v ≤ hi then G else tFs G 1 (nI q)) h (if lo ≤ v ∧ v ≤ hi then H else mFs (mFs H 3 (nI q)) 4 (nI q)) (decide (lo ≤ v ∧ v ≤ hi)) (nI v) := by
  by_cases c : lo ≤ v ∧ v ≤ hi
  · rw [if_pos c, if_pos c, decide_eq_true c]
    exact ⟨fg, fh, Or.inl ⟨rfl, pOk.at ((fg.1 1 (by omega)).trans (ht.trans (fh.1 1 (by omega)).symm)) hw cG mH, v, c.1, c.2, rfl, h2⟩⟩
  · rw [if_neg c, if_neg c, decide_eq_false c]
    exact ⟨fg.tr gT.f1, fh.tr (hA.f3.t.tr hT.f4), Or.inr ⟨rfl, q, by have := cG.2.2.2; omega, tfs_s, fs_s⟩⟩
theorem TM_num (hu : 1000 ≤ u) (ho : pOk n g h) {lo hi : Nat} (h2 : lo ≤ 99) (h3 : hi ≤ 99) : ∃ b g' v h', fT_hasNumber u g (nI lo) (nI hi) = some (b, g') ∧ fM_number u h (nI lo) (nI hi) = some (v, h') ∧ NP n lo hi g g' h h' b v := by
  obtain ⟨q, g1, h1, e1, e2, c1, m1, f1, k1, _, t1, t2, w1⟩ := TM_next hu ho
  have ht := ho.1
  unfold fT_hasNumber fM_number
  rw [e1, e2]
  simp only [Option.bind_some, M_isDigit, izN]
  cases d1 : isDg (sgn (g 1) n q) with
  | false =>
    rw [T_digit_n c1 (by rw [t1]; exact d1), M_bad w1]
    simp only [Option.bind_some, if_true, Bool.false_eq_true, if_false]
    exact ⟨_, _, _, _, rfl, rfl, f1, k1.t.tr hT.f4, Or.inr ⟨rfl, q, c1.2.2.2, c1.2.1, fs_s.trans m1.2.1⟩⟩
  | true =>
    obtain ⟨a, ha, ea⟩ := isDg_of d1
    have hqn : q < n := sgn_lt (by rw [ea]; exact neN1 (by omega))
    have e4 : (tFs g1 2 (nI a)) 0 1 = nI q := (tfs_n (by omega)).trans c1.2.1
    rw [T_digit_y c1 (by rw [t1]; exact d1) (by rw [t1]; exact ea), M_here m1]
    simp only [Option.bind_some]
    rw [if_neg (neN1 (by omega)), e4, nI_add, m1.2.1, nI_add, t2, ea]
    have c5 : clT n (q + 1) (tFs (tFs g1 2 (nI a)) 1 (nI (q + 1))) := c1.to (gT.f2.tr gT.f1) tfs_s (by omega)
    have n5 : (tFs (tFs g1 2 (nI a)) 1 (nI (q + 1))) 0 2 = nI a := (tfs_n (by omega)).trans tfs_s
    have f5 : gT g (tFs (tFs g1 2 (nI a)) 1 (nI (q + 1))) := f1.tr (gT.f2.tr gT.f1)
    have t5 : (tFs (tFs g1 2 (nI a)) 1 (nI (q + 1))) 1 = g 1 := f5.1 1 (by omega)
    generalize tFs (tFs g1 2 (nI a)) 1 (nI (q + 1)) = G at c5 n5 f5 t5 ⊢
    have m5 : mlT n (q + 1) (mFs h1 3 (nI (q + 1))) := m1.to hA.f3.t fs_s (by omega)
    have k5 : hT h (mFs h1 3 (nI (q + 1))) := (k1.tr hA.f3).t
    have w5 : (mFs h1 3 (nI (q + 1))).1 0 4 = iz (-1) := (fs_n (by omega)).trans w1
    have t6 : (mFs h1 3 (nI (q + 1))).1 1 = g 1 := (k5.1 1 (by omega)).trans ht.symm
    generalize mFs h1 3 (nI (q + 1)) = H at m5 k5 w5 t6 ⊢
    rw [M_here m5, t6]
    simp only [Option.bind_some]
    cases d2 : isDg (sgn (g 1) n (q + 1)) with
    | false =>
      rw [T_digit_n c5 (by rw [t5]; exact d2)]
      simp only [Option.bind_some, if_true, Bool.false_eq_true, if_false]
      rw [M_here m5, t6]
      simp only [Option.bind_some, d2, Bool.false_eq_true, if_false]
      rw [subI (by omega), show 48 + a - 48 = a by omega, M_rng m5 w5 (by omega) (by omega) (by omega), T_rng c5 n5 (by omega) (by omega) (by omega)]
      exact ⟨_, _, _, _, rfl, rfl, NP_end ht f5 k5 c5 m5 w5 n5⟩
    | true =>
      obtain ⟨b, hb, eb⟩ := isDg_of d2
      have hqn2 : q + 1 < n := sgn_lt (by rw [eb]; exact neN1 (by omega))
      rw [T_digit_y c5 (by rw [t5]; exact d2) (by rw [t5]; exact eb)]
      simp only [Option.bind_some]
      have e6 : (tFs G 2 (nI (a * 10 + b))) 0 1 = nI (q + 1) := (tfs_n (by omega)).trans c5.2.1
      rw [if_neg (neN1 (by omega)), n5, mulI, nI_add, e6, nI_add, m5.2.1, nI_add, eb, subI (by omega), mulI, nI_add, subI (by omega), show 10 * (48 + a - 48) + (48 + b) - 48 = a * 10 + b by omega]
      have c7 : clT n (q + 1 + 1) (tFs (tFs G 2 (nI (a * 10 + b))) 1 (nI (q + 1 + 1))) := c5.to (gT.f2.tr gT.f1) tfs_s (by omega)
      have n7 : (tFs (tFs G 2 (nI (a * 10 + b))) 1 (nI (q + 1 + 1))) 0 2 = nI (a * 10 + b) := (tfs_n (by omega)).trans tfs_s
      have f7 : gT g (tFs (tFs G 2 (nI (a * 10 + b))) 1 (nI (q + 1 + 1))) := f5.tr (gT.f2.tr gT.f1)
      have t7 : (tFs (tFs G 2 (nI (a * 10 + b))) 1 (nI (q + 1 + 1))) 1 = g 1 := f7.1 1 (by omega)
      generalize tFs (tFs G 2 (nI (a * 10 + b))) 1 (nI (q + 1 + 1)) = G2 at c7 n7 f7 t7 ⊢
      have m7 : mlT n (q + 1 + 1) (mFs H 3 (nI (q + 1 + 1))) := m5.to hA.f3.t fs_s (by omega)
      have k7 : hT h (mFs H 3 (nI (q + 1 + 1))) := k5.tr hA.f3.t
      have w7 : (mFs H 3 (nI (q + 1 + 1))).1 0 4 = iz (-1) := (fs_n (by omega)).trans w5
      have t8 : (mFs H 3 (nI (q + 1 + 1))).1 1 = g 1 := (k7.1 1 (by omega)).trans ht.symm
      generalize mFs H 3 (nI (q + 1 + 1)) = H2 at m7 k7 w7 t8 ⊢
      simp only [if_true, Option.bind_some]
      rw [M_here m7, t8]
      simp only [Option.bind_some]
      cases d3 : isDg (sgn (g 1) n (q + 1 + 1)) with
      | false =>
        rw [T_digit_n c7 (by rw [t7]; exact d3)]
        simp only [Option.bind_some, if_true, Bool.false_eq_true, if_false]
        rw [M_rng m7 w7 (by omega) (by omega) (by omega), T_rng c7 n7 (by omega) (by omega) (by omega)]
        exact ⟨_, _, _, _, rfl, rfl, NP_end ht f7 k7 c7 m7 w7 n7⟩
      | true =>
        obtain ⟨e, he, ee⟩ := isDg_of d3
        rw [T_digit_y c7 (by rw [t7]; exact d3) (by rw [t7]; exact ee), M_bad w7]
        simp only [Option.bind_some, if_true]
        rw [if_neg (neN1 (by omega))]
        exact ⟨_, _, _, _, rfl, rfl, f7, k7.tr hT.f4, Or.inr ⟨rfl, q + 1 + 1, c7.2.2.2, c7.2.1, fs_s.trans m7.2.1⟩⟩
end TXU
