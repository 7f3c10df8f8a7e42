section MIX2
variable {u : Nat} {Γ : nx_G} {x A B : Nat}
theorem shl0 (s : Int32) : nI 0 <<< s = nI 0 := by
  have : (0 : Int32) <<< s = 0 := Int32.zero_shiftLeft
  exact this
theorem minF (a f : Int32) : (if f ≤ a then f else a) = (if a < f then a else f) := by
  by_cases h : a < f
  · rw [if_pos h, if_neg]
    rw [ltN] at h
    exact h
  · rw [if_neg h, if_pos]
    rw [ltN] at h
    exact Classical.not_not.mp h
theorem it_3 {σ ρ : Type} {b : σ → Option (σ ⊕ ρ)} {s0 s1 s2 : σ} {r : ρ} (h0 : b s0 = some (.inl s1)) (h1 : b s1 = some (.inl s2)) (h2 : b s2 = some (.inr r)) {v : Nat} (hv : 3 ≤ v) : nx_iter v b s0 = some r := by
  obtain ⟨w, rfl⟩ : ∃ w, v = w + 3 := ⟨v - 3, by omega⟩
  rw [it_on h0, it_on h1]
  exact it_end h2 (by omega)
theorem mixN (hu : 1000 ≤ u) {R : ER} {k1 ad1 m1 k2 ad2 m2 : Nat} (h16 : m1 ≤ 6) (h26 : m2 ≤ 6) : ∀ (n v : Nat), n < v → ∀ {i j : Nat} {row : Int32} {c : CS} {Dm : nx_M} {g : mS} {D : Nat → List De} {T : ET} {a : Nat}, i ≤ m1 → j ≤ m2 → (m1 - i) + (m2 - j) = n → CC Γ x A B c Dm → csQ c 2 (i + j) = some a → RW R (nI 0) D (csW c a) T → tFe T = nI 0 → rulI R g → rM (some (g.1 7)) D (g.1 7) T → EI R D T → scr c g k1 ad1 m1 → scr c g k2 ad2 m2 → csI c 10 = g.1 0 22 ∧ csI c 11 = g.1 0 23 → ∃ c' D' g', fA_mixFrom v u Γ Dm (x + 15) ad1 ad2 (nI i) (nI j) row = some D' ∧ fM_goMix v u g (nI k1) (nI k2) (nI i) (nI j) row = some g' ∧ CC Γ x A B c' D' ∧ cK x c c' ∧ lvS c c' (i + j) ∧ mE g g' ∧ g'.1 7 = g.1 7 ∧ (∀ q, q < 639 * (i + j) → g'.1 11 q = g.1 11 q) ∧ csI c' 10 = g'.1 0 22 ∧ csI c' 11 = g'.1 0 23 := by
  intro n
  induction n with
  | zero =>
    intro v hv i j row c Dm g D T a hi hj hn hc qa hw hT hr h7 hE hs1 hs2 hct
    have ei : i = m1 := by omega
    have ej : j = m2 := by omega
    obtain ⟨k14, _, q11, q12, q13, _⟩ := hs1
    obtain ⟨k24, _, q21, q22, q23, _⟩ := hs2
    have hsA1 : isSA c ad1 := Or.inr ⟨k1, k14, q11⟩
    have hsA2 : isSA c ad2 := Or.inr ⟨k2, k24, q21⟩
    obtain ⟨D1, e1, hm1, hd1⟩ := hc.1.p10 (csI c 10 + nI 1)
    have hc1 := hc.same hm1 rfl rfl (cI_n (by omega)) hd1
    have i11 : csI (cI' c 10 (csI c 10 + nI 1)) 11 = csI c 11 := cI_n (by omega)
    obtain ⟨D2, e2, hm2, hd2⟩ := hc1.1.p11 (if csI c 11 = iz (-1) then row else if row < csI c 11 then row else csI c 11)
    have hc2 := hc1.same hm2 rfl rfl (cI_n (by omega)) hd2
    refine ⟨_, D2, mFs (mFs g 22 (g.1 0 22 + nI 1)) 23 (if g.1 0 23 = iz (-1) then row else if row < g.1 0 23 then row else g.1 0 23), ?_, ?_, hc2, ⟨fun q hq => (cI_n (by omega)).trans (cI_n (by omega)), rfl, rfl, rfl, rfl, rfl, fun _ _ _ h => ⟨h, rfl⟩, rfl, rfl⟩, fun _ _ _ _ h => ⟨h, rfl⟩, (mE.fs (by omega)).tr (mE.fs (by omega)), by rw [fs_r (by omega), fs_r (by omega)], fun q _ => by rw [fs_r (by omega), fs_r (by omega)], ?_, ?_⟩
    · obtain ⟨w, rfl⟩ : ∃ w, v = w + 1 := ⟨v - 1, by omega⟩
      show fA_mixFrom_b u (fA_mixFrom w u Γ) Γ Dm (x + 15) ad1 ad2 (nI i) (nI j) row = some D2
      unfold fA_mixFrom_b
      simp (disch := omega) only [hc.1.sn hsA1, hc.1.sn hsA2, q12, q22, Option.bind_some, ltI, hc.1.a1, izN]
      rw [if_neg (by omega), if_neg (by omega), e1, Option.bind_some, hc1.1.a2, i11, Option.bind_some]
      have es : (if csI c 11 = iz (-1) then some row else (some (csI c 11)).bind fun x23 => some (if row < x23 then row else x23)) = some (if csI c 11 = iz (-1) then row else if row < csI c 11 then row else csI c 11) := by split <;> rfl
      rw [es, Option.bind_some, e2]
      rfl
    · obtain ⟨w, rfl⟩ : ∃ w, v = w + 1 := ⟨v - 1, by omega⟩
      show fM_goMix_b u (fM_goMix w u) g (nI k1) (nI k2) (nI i) (nI j) row = _
      have f23 : (mFs g 22 (g.1 0 22 + nI 1)).1 0 23 = g.1 0 23 := fs_n (by omega)
      unfold fM_goMix_b
      simp (disch := omega) only [rd6, q13, q23, Option.bind_some, izN, f23]
      rw [if_pos (by rw [ei]), if_pos (by rw [ej])]
      have es : (if g.1 0 23 = iz (-1) then some row else if g.1 0 23 ≤ row then some (g.1 0 23) else some row) = some (if g.1 0 23 = iz (-1) then row else if row < g.1 0 23 then row else g.1 0 23) := by
        split
        · rfl
        · rw [← minF]
          split <;> rfl
      rw [es]
      rfl
    · rw [fs_n (by omega), fs_s, cI_n (by omega), cI_s, hct.1]
    · rw [fs_s, cI_s, hct.2]
  | succ n ih =>
    intro v hv i j row c Dm g D T a hi hj hn hc qa hw hT hr h7 hE hs1 hs2 hct
    have hs1' := hs1
    have hs2' := hs2
    obtain ⟨k14, _, q11, q12, q13, _⟩ := hs1
    obtain ⟨k24, _, q21, q22, q23, _⟩ := hs2
    have hd12 : i + j < 12 := by omega
    -- the levels
    obtain ⟨a', c1, D1, e1, hc1, qa1, hJ1⟩ := hc.lv u (d := i + j) (by omega)
    obtain ⟨b, c2, D2, e2, hc2, qb2, hJ2⟩ := hc1.lv u (d := i + j + 1) (by omega)
    have ea : a' = a := by
      have := (hJ1.2.2.2 (i + j) a (by omega) qa).1
      rw [qa1] at this
      exact Option.some.inj this
    subst ea
    obtain ⟨qa2, wa2⟩ := hJ2.2.2.2 (i + j) a' (by omega) qa1
    have wa1 := (hJ1.2.2.2 (i + j) a' (by omega) qa).2
    have k02 : cK x c c2 := hJ1.1.tr hJ2.1
    have l02 : lvS c c2 (i + j) := fun e q _ h13 hq => by
      obtain ⟨z1, z2⟩ := hJ1.2.2.2 e q h13 hq
      obtain ⟨z3, z4⟩ := hJ2.2.2.2 e q h13 z1
      exact ⟨z3, z4.trans z2⟩
    have hw2 : RW R (nI 0) D (csW c2 a') T := by rw [wa2, wa1]; exact hw
    have ct2 : csI c2 = csI c := hJ2.2.1.trans hJ1.2.1
    -- aside
    obtain ⟨aa, p1, p2, p3⟩ := M_put hu g (d := i + j) (by omega)
    have e37 : (mRow (mFs g 15 (nI 1)) 11 aa).1 7 = g.1 7 := by rw [mRow_n (by omega), fs_r (by omega)]
    have e30 : ∀ q, q ≠ 15 → (mRow (mFs g 15 (nI 1)) 11 aa).1 0 q = g.1 0 q := fun q hq => by rw [mRow_n (by omega), fs_n hq]
    have hm3 : mE g (mRow (mFs g 15 (nI 1)) 11 aa) := (mE.fs (by omega)).tr (mE.row (by omega))
    have h315 : (mRow (mFs g 15 (nI 1)) 11 aa).1 0 15 = nI 1 := by rw [mRow_n (by omega), fs_s]
    have h311 : ∀ q, q < 639 → (mRow (mFs g 15 (nI 1)) 11 aa).1 11 (639 * (i + j) + q) = (mRow (mFs g 15 (nI 1)) 11 aa).1 7 q := fun q hq => by rw [mRow_s, e37]; exact p2 q hq
    have hl11 : ∀ q, q < 639 * (i + j) → (mRow (mFs g 15 (nI 1)) 11 aa).1 11 q = g.1 11 q := fun q hq => by rw [mRow_s]; exact p3 q (Or.inl hq)
    have ct3 : csI c2 10 = (mRow (mFs g 15 (nI 1)) 11 aa).1 0 22 ∧ csI c2 11 = (mRow (mFs g 15 (nI 1)) 11 aa).1 0 23 := by
      rw [ct2, e30 22 (by omega), e30 23 (by omega)]; exact hct
    have h73 : rM (some ((mRow (mFs g 15 (nI 1)) 11 aa).1 7)) D ((mRow (mFs g 15 (nI 1)) 11 aa).1 7) T := by rw [e37]; exact h7
    have hs13 : scr c2 (mRow (mFs g 15 (nI 1)) 11 aa) k1 ad1 m1 := hs1'.to k02 hm3
    have hs23 : scr c2 (mRow (mFs g 15 (nI 1)) 11 aa) k2 ad2 m2 := hs2'.to k02 hm3
    have hr3 := hr.to hm3
    generalize mRow (mFs g 15 (nI 1)) 11 aa = g3 at p1 e37 e30 hm3 h315 h311 hl11 ct3 h73 hs13 hs23 hr3
    have hsA1 : isSA c ad1 := Or.inr ⟨k1, k14, q11⟩
    have hsA2 : isSA c ad2 := Or.inr ⟨k2, k24, q21⟩
    obtain ⟨w, rfl⟩ : ∃ w, v = w + 1 := ⟨v - 1, by omega⟩
    -- side one
    have side1 : ∃ c4 D4 g4, (if nI m1 ≤ nI i then some D2 else (fA_goOn u Γ D2 a' b ad1 (nI i)).bind fun p8 => if p8.1 = true then (gR p8.2 b 6 0).bind fun q9 => (aI Γ p8.2 q9 (nI 6)).bind fun x10 => if x10 = nI 0 then (gAt p8.2 (x + 15) 0 (fA_mixFrom w u Γ p8.2 (x + 15) ad1 ad2 (nI (i + 1)) (nI j) row)).bind fun D11 => some D11 else some p8.2 else some p8.2) = some D4 ∧ (if nI m1 ≤ nI i then some g3 else (some (mFs g3 16 (nI 0))).bind fun g8 => (fM_doStep u g8 (nI k1) (nI i)).bind fun p9 => (if p9.1 = true then if p9.2.1 0 16 = nI 0 then (fM_goMix w u p9.2 (nI k1) (nI k2) (nI (i + 1)) (nI j) row).bind fun g10 => some g10 else some p9.2 else some p9.2 : Option mS).bind fun s11 => (fM_bringBack u s11 (nI (i + j))).bind fun g12 => (some (mFs g12 15 (nI 1))).bind fun g13 => some g13) = some g4 ∧ CC Γ x A B c4 D4 ∧ cK x c2 c4 ∧ lvS c2 c4 (i + j) ∧ csQ c4 2 (i + j + 1) = some b ∧ mE g3 g4 ∧ g4.1 7 = g3.1 7 ∧ g4.1 0 15 = nI 1 ∧ (∀ q, q < 639 * (i + j + 1) → g4.1 11 q = g3.1 11 q) ∧ csI c4 10 = g4.1 0 22 ∧ csI c4 11 = g4.1 0 23 := by
      by_cases ci : i = m1
      · exact ⟨c2, D2, g3, if_pos (by rw [leI (by omega) (by omega)]; omega), if_pos (by rw [leI (by omega) (by omega)]; omega), hc2, cK.rf, lvS.rf, qb2, mE.rf, rfl, h315, fun _ _ => rfl, ct3.1, ct3.2⟩
      · have hn1 : ¬ nI m1 ≤ nI i := by rw [leI (by omega) (by omega)]; omega
        rw [if_neg hn1, if_neg hn1]
        exact SD (Γ := Γ) (x := x) (A := A) (B := B) hu (d := i + j) (k := k1) (ad := ad1) (m := m1) (i := i) hd12 (by omega) hc2 qa2 qb2 hw2 hT hr3 h73 h315 h311 hE hs13 ct3 (fun D => fA_mixFrom w u Γ D (x + 15) ad1 ad2 (nI (i + 1)) (nI j) row) (fun g => fM_goMix w u g (nI k1) (nI k2) (nI (i + 1)) (nI j) row) (fun c5 D5 g5 Dx T5 y1 y2 y3 y4 y5 y6 y7 y8 y9 y10 => by
          have key := ih w (by omega) (i := i + 1) (j := j) (row := row) (by omega) hj (by omega) y1 (a := b) (by rw [show i + 1 + j = i + j + 1 by omega]; exact y2) y3 y4 y5 y6 y7 (hs13.to y8 y9) (hs23.to y8 y9) y10
          rw [show i + 1 + j = i + j + 1 by omega] at key
          exact key)
    obtain ⟨c4, D4, g4, s11, s12, s13, s14, s15, s16, s17, s18, s19, s110, s111⟩ := side1
    obtain ⟨qa4, wa4⟩ := s15 (i + j) a' (by omega) (by omega) qa2
    have hw4 : RW R (nI 0) D (csW c4 a') T := by rw [wa4]; exact hw2
    -- side two
    have side2 : ∃ c6 D6 g6, (if nI m2 ≤ nI j then some D4 else (fA_goOn u Γ D4 a' b ad2 (nI j)).bind fun p8 => if p8.1 = true then (gR p8.2 b 6 0).bind fun q9 => (aI Γ p8.2 q9 (nI 6)).bind fun x10 => if x10 = nI 0 then (gAt p8.2 (x + 15) 0 (fA_mixFrom w u Γ p8.2 (x + 15) ad1 ad2 (nI i) (nI (j + 1)) (row ||| (nI 1 <<< (nI (i + j) &&& 31))))).bind fun D11 => some D11 else some p8.2 else some p8.2) = some D6 ∧ (if nI m2 ≤ nI j then some g4 else (some (mFs g4 16 (nI 0))).bind fun g8 => (fM_doStep u g8 (nI k2) (nI j)).bind fun p9 => (if p9.1 = true then if p9.2.1 0 16 = nI 0 then (fM_goMix w u p9.2 (nI k1) (nI k2) (nI i) (nI (j + 1)) (row ||| (nI 1 <<< (nI (i + j) &&& 31)))).bind fun g10 => some g10 else some p9.2 else some p9.2 : Option mS).bind fun s11 => (fM_bringBack u s11 (nI (i + j))).bind fun g12 => (some (mFs g12 15 (nI 1))).bind fun g13 => some g13) = some g6 ∧ CC Γ x A B c6 D6 ∧ cK x c4 c6 ∧ lvS c4 c6 (i + j) ∧ csQ c6 2 (i + j + 1) = some b ∧ mE g4 g6 ∧ g6.1 7 = g4.1 7 ∧ g6.1 0 15 = nI 1 ∧ (∀ q, q < 639 * (i + j + 1) → g6.1 11 q = g4.1 11 q) ∧ csI c6 10 = g6.1 0 22 ∧ csI c6 11 = g6.1 0 23 := by
      by_cases ci : j = m2
      · exact ⟨c4, D4, g4, if_pos (by rw [leI (by omega) (by omega)]; omega), if_pos (by rw [leI (by omega) (by omega)]; omega), s13, cK.rf, lvS.rf, s16, mE.rf, rfl, s19, fun _ _ => rfl, s111.1, s111.2⟩
      · have hn1 : ¬ nI m2 ≤ nI j := by rw [leI (by omega) (by omega)]; omega
        rw [if_neg hn1, if_neg hn1]
        exact SD (Γ := Γ) (x := x) (A := A) (B := B) hu (d := i + j) (k := k2) (ad := ad2) (m := m2) (i := j) hd12 (by omega) s13 qa4 s16 hw4 hT (hr3.to s17) (by rw [s18]; exact h73) s19 (fun q hq => by rw [s110 _ (by omega), s18]; exact h311 q hq) hE (hs23.to s14 s17) s111 (fun D => fA_mixFrom w u Γ D (x + 15) ad1 ad2 (nI i) (nI (j + 1)) (row ||| (nI 1 <<< (nI (i + j) &&& 31)))) (fun g => fM_goMix w u g (nI k1) (nI k2) (nI i) (nI (j + 1)) (row ||| (nI 1 <<< (nI (i + j) &&& 31)))) (fun c5 D5 g5 Dx T5 y1 y2 y3 y4 y5 y6 y7 y8 y9 y10 => by
          have key := ih w (by omega) (i := i) (j := j + 1) (row := row ||| (nI 1 <<< (nI (i + j) &&& 31))) hi (by omega) (by omega) y1 (a := b) (by rw [show i + (j + 1) = i + j + 1 by omega]; exact y2) y3 y4 y5 y6 y7 ((hs13.to s14 s17).to y8 y9) ((hs23.to s14 s17).to y8 y9) y10
          rw [show i + (j + 1) = i + j + 1 by omega] at key
          exact key)
    obtain ⟨c6, D6, g6, s21, s22, s23, s24, s25, s26, s27, s28, s29, s210, s211⟩ := side2
    have hsA1c2 : isSA c2 ad1 := Or.inr ⟨k1, k14, hs13.2.2.1⟩
    have hsA2c4 : isSA c4 ad2 := Or.inr ⟨k2, k24, (hs23.to s14 s17).2.2.1⟩
    refine ⟨c6, D6, g6, ?_, ?_, s23, (k02.tr s14).tr s24, (l02.tr s15).tr s25, (hm3.tr s17).tr s27, (s28.trans s18).trans e37, fun q hq => ?_, s211.1, s211.2⟩
    · show fA_mixFrom_b u (fA_mixFrom w u Γ) Γ Dm (x + 15) ad1 ad2 (nI i) (nI j) row = some D6
      have hmain : fA_mixFrom_60k1 u Γ (x + 15) ad1 ad2 (nI i) (nI j) row (fA_mixFrom w u Γ) Dm = some D6 := by
        unfold fA_mixFrom_60k1 fA_mixFrom_130k0
        simp (disch := omega) only [nI_add, izN, ltI]
        rw [if_pos hd12, hc.1.at15, e1, Option.bind_some, Option.bind_some, hc1.1.at15, e2, Option.bind_some, Option.bind_some, hc2.1.sn hsA1c2, hs13.2.2.2.1, Option.bind_some, s11, Option.bind_some, s13.1.sn hsA2c4, (hs23.to s14 s17).2.2.2.1, Option.bind_some, s21]
      unfold fA_mixFrom_b
      simp (disch := omega) only [hc.1.sn hsA1, hc.1.sn hsA2, q12, q22, Option.bind_some, ltI]
      by_cases ci : i < m1
      · rw [if_pos ci]; exact hmain
      · rw [if_neg ci, if_pos (by omega)]; exact hmain
    · show fM_goMix_b u (fM_goMix w u) g (nI k1) (nI k2) (nI i) (nI j) row = _
      have hmain : fM_goMix_68k0 u (nI k1) (nI k2) (nI i) (nI j) row (fM_goMix w u) g = some g6 := by
        unfold fM_goMix_68k0
        rw [nI_add, p1, Option.bind_some]
        have b0 : fM_goMix_77 u (nI k1) (nI k2) (nI i) (nI j) row (fM_goMix w u) (nI 0, g3) = some (.inl (nI 1, g4)) := by
          unfold fM_goMix_77
          simp (disch := omega) only [izN, leI, if_true, Option.bind_some, rd6, hs13.2.2.2.2.1, nI_add, subI, shl0, or_0, Nat.sub_zero, Nat.add_zero]
          rw [if_neg (by omega)]
          simp (disch := omega) only [leI, Option.bind_some] at s12
          rw [s12]
          rfl
        have b1 : fM_goMix_77 u (nI k1) (nI k2) (nI i) (nI j) row (fM_goMix w u) (nI 1, g4) = some (.inl (nI 2, g6)) := by
          unfold fM_goMix_77
          simp (disch := omega) only [izN, leI, i10, if_false, Option.bind_some, rd6, (hs23.to s14 s17).2.2.2.2.1, nI_add, subI, Nat.add_sub_cancel]
          rw [if_neg (by omega)]
          simp (disch := omega) only [leI, Option.bind_some] at s22
          rw [s22]
          rfl
        have b2 : fM_goMix_77 u (nI k1) (nI k2) (nI i) (nI j) row (fM_goMix w u) (nI 2, g6) = some (.inr g6) := by
          unfold fM_goMix_77
          simp (disch := omega) only [izN, leI]
          rw [if_pos (by omega)]
        simp only [izN]
        rw [it_3 b0 b1 b2 (by omega)]
        rfl
      unfold fM_goMix_b
      simp (disch := omega) only [rd6, q13, q23, Option.bind_some, eqI]
      by_cases ci : i = m1
      · rw [if_pos ci, if_neg (by omega)]; exact hmain
      · rw [if_neg ci]; exact hmain
    · rw [s210 q (by omega), s110 q (by omega)]
      exact hl11 q hq
/-! the whole of it -/
theorem rows_ex {m1 m2 : Nat} (h2 : m2 ≤ 6) (hu : 1000 ≤ u) : ∃ r, nx_iter u (fL_rowsOf_4 (nI m1) (nI m2)) (nI 1, nI 1) = some r := by
  have h := it_inv (b := fL_rowsOf_4 (nI m1) (nI m2)) (Q := fun _ => True) (fun i s => s.2 = nI (i + 1)) m2 (fun i s hi hI => by
    unfold fL_rowsOf_4
    rw [hI]
    simp (disch := omega) only [ltI, izN, nI_add]
    rw [if_neg (by omega)]
    unfold nx_dv
    rw [if_neg (nI_ne0 (by omega) (by omega))]
    exact ok.ret rfl) (fun s hI => by
    unfold fL_rowsOf_4
    rw [hI]
    simp (disch := omega) only [ltI]
    rw [if_pos (by omega)]
    exact ok.ret trivial) (u := u) (i := 0) (s := (nI 1, nI 1)) rfl (by omega) (by omega)
  obtain ⟨r, e, _⟩ := h
  exact ⟨r, e⟩
theorem rows_M {g : mS} {k1 k2 m1 m2 : Nat} (h1 : k1 < 5) (h2 : k2 < 5) (e1 : g.1 6 k1 = nI m1) (e2 : g.1 6 k2 = nI m2) : fM_mix_64 g (nI k1) (nI k2) = fL_rowsOf_4 (nI m1) (nI m2) := by
  funext s
  unfold fM_mix_64 fL_rowsOf_4
  simp (disch := omega) only [rd6, e1, e2, Option.bind_some]
theorem C_begin {c : CS} {Dm : nx_M} (hc : CC Γ x A B c Dm) : ∃ a c' D', fA_beginMix u Γ Dm (x + 15) (x + 9) = some D' ∧ CC Γ x A B c' D' ∧ csQ c' 2 0 = some a ∧ cK x c c' ∧ csI c' 10 = nI 0 ∧ csI c' 11 = iz (-1) ∧ ∀ (R : ER) (w0 : Int32) (D : Nat → List De) (T : ET), RW R w0 D (csW c (x + 9)) T → RW R (nI 0) D (csW c' a) (sFe T (nI 0)) := by
  obtain ⟨D1, e1, hm1, hd1⟩ := hc.1.p10 (nI 0)
  have hc1 := hc.same hm1 rfl rfl (cI_n (by omega)) hd1
  obtain ⟨D2, e2, hm2, hd2⟩ := hc1.1.p11 (iz (-1))
  have hc2 := hc1.same hm2 rfl rfl (cI_n (by omega)) hd2
  obtain ⟨a, c3, D3, e3, h3, q3, k3, i3, w3⟩ := C_copy (u := u) hc2
  have wa : isWA x c3 a := WA_q (Or.inr ⟨rfl, by omega⟩) q3
  have h4 := h3.wr wa (upd (csW c3 a) 6 (nI 0))
  have k02 : cK x c (cI' (cI' c 10 (nI 0)) 11 (iz (-1))) := ⟨fun q hq => (cI_n (by omega)).trans (cI_n (by omega)), rfl, rfl, rfl, rfl, rfl, fun _ _ _ h => ⟨h, rfl⟩, rfl, rfl⟩
  refine ⟨a, _, _, ?_, h4, q3, (k02.tr k3).tr (cK.lw h3.2 (d := 0) (by omega) q3 _), ?_, ?_, fun R w0 D T hw => ?_⟩
  · unfold fA_beginMix
    simp only [izN]
    rw [e1, Option.bind_some, e2, Option.bind_some, hc2.1.at15, e3]
    simp only [Option.bind_some]
    have eg : gR D3 a 6 0 = some (a + 1) := by
      unfold gR
      rw [h3.1.go6 wa]
      rfl
    rw [eg, Option.bind_some]
    unfold aIw
    rw [aF_row (h3.1.2.1 a wa).2, Option.bind_some]
    show ((nx_wr 514 (csW c3 a) (nI 6) (nI 0)).bind _).bind _ = _
    rw [wrW (by omega)]
    rfl
  · show csI c3 10 = _
    rw [i3, cI_n (by omega), cI_s]
  · show csI c3 11 = _
    rw [i3, cI_s]
  · have e : csW (cW' c3 a (upd (csW c3 a) 6 (nI 0))) a = upd (csW c3 a) 6 (nI 0) := upR_s
    rw [e]
    exact (hw.cp (f' := csW c3 a) w3).f0
theorem B_mix (hu2 : 40000 ≤ u) {Dm : nx_M} {g : mS} (hI : INV Γ x A B Dm g) (a b d : Int32) : ∃ r Dm' g', fC_mix u Γ Dm x a b d = some (r, Dm') ∧ fM_mix u g a b d = some (r, g') ∧ INV Γ x A B Dm' g' := by
  have hu : 1000 ≤ u := by omega
  obtain ⟨c, hc, hb, hs⟩ := hI
  have hI0 : INV Γ x A B Dm g := ⟨c, hc, hb, hs⟩
  obtain ⟨n, s1, s2, s3, s4⟩ := hb.2.1
  have hsa := C_scriptAt (u := u) hc s1 s2 a
  have hsb := C_scriptAt (u := u) hc s1 s2 b
  unfold fC_mix fM_mix
  rw [M_isScript s1 s3, M_isScript s1 s3, hc.1.at0, hc.1.at0]
  rcases hs with hf | ⟨R, D, T, hst⟩
  · rw [Mf_isStore u hf.2.1]
    have ea : ∃ o, fC_scriptAt u Γ Dm x a = some o := by
      by_cases ca : inR a n = true
      · obtain ⟨k, hk, rfl⟩ := inR_of ca
        exact ⟨_, hsa.2 k hk⟩
      · exact ⟨_, hsa.1 (by simpa using ca)⟩
    have eb : ∃ o, fC_scriptAt u Γ Dm x b = some o := by
      by_cases ca : inR b n = true
      · obtain ⟨k, hk, rfl⟩ := inR_of ca
        exact ⟨_, hsb.2 k hk⟩
      · exact ⟨_, hsb.1 (by simpa using ca)⟩
    obtain ⟨oa, ea⟩ := ea
    obtain ⟨ob, eb⟩ := eb
    rw [ea, eb]
    simp only [Option.bind_some, hc.1.r5, hc.wRd WA_9]
    rw [hf.1, Wf_hasStore]
    exact ⟨_, Dm, g, rfl, rfl, hI0⟩
  · have hrm := st2.rm hst hb.2.2.2
    obtain ⟨⟨w0, hw⟩, hm, hE⟩ := hst.2.1
    rw [M_isStore hu hrm hE.1.1.1 hE.1.1.2.1]
    by_cases ca : inR a n = true
    · obtain ⟨k1, hk1, rfl⟩ := inR_of ca
      obtain ⟨ad1, m1, q11, q12, q13, q14, q15⟩ := s4 k1 hk1
      have hs1 : scr c g k1 ad1 m1 := ⟨by omega, q12, q11, q13, q14, q15⟩
      rw [hsa.2 k1 hk1, q11, ca]
      by_cases cb : inR b n = true
      · obtain ⟨k2, hk2, rfl⟩ := inR_of cb
        obtain ⟨ad2, m2, q21, q22, q23, q24, q25⟩ := s4 k2 hk2
        have hs2 : scr c g k2 ad2 m2 := ⟨by omega, q22, q21, q23, q24, q25⟩
        have hsA1 : isSA c ad1 := Or.inr ⟨k1, by omega, q11⟩
        have hsA2 : isSA c ad2 := Or.inr ⟨k2, by omega, q21⟩
        rw [hsb.2 k2 hk2, q21, cb]
        rw [hc.1.r5, Option.bind_some, Option.bind_some, Option.bind_some, hc.wRd WA_9, W_hasStore hu hw hE.1.1]
        simp only [Option.bind_some, if_true, izN]
        rw [hc.1.sn hsA1, hc.1.sn hsA2, q13, q23, L_within u d (show 3 < 1000000000 by omega), M_in u d (show 2 < 1000000000 by omega), rd6 (show k1 < 5 by omega), rd6 (show k2 < 5 by omega), q14, q24]
        simp (disch := omega) only [Option.bind_some, ltI, leI]
        rw [if_neg (by simp), if_neg (by simp)]
        by_cases c1 : 6 < m1
        · rw [if_pos c1, if_pos c1]
          split <;> exact ⟨_, Dm, g, rfl, rfl, hI0⟩
        · by_cases c2 : 6 < m2
          · rw [if_neg c1, if_neg (show ¬ m2 ≤ 6 by omega), if_neg c1, if_pos c2]
            split <;> exact ⟨_, Dm, g, rfl, rfl, hI0⟩
          · rw [if_neg c1, if_pos (show m2 ≤ 6 by omega), if_neg c1, if_neg c2]
            by_cases cd : inR d 3 = true
            · rw [if_pos cd, if_pos cd]
              obtain ⟨rr, er⟩ := rows_ex (u := u) (m1 := m1) (m2 := m2) (by omega) hu
              obtain ⟨a0, c3, D3, e3, h3, q3, k3, i10', i11', w3⟩ := C_begin (u := u) hc
              have hm12 : mE g (mFs (mFs g 22 (nI 0)) 23 (iz (-1))) := (mE.fs (by omega)).tr (mE.fs (by omega))
              have e127 : (mFs (mFs g 22 (nI 0)) 23 (iz (-1))).1 7 = g.1 7 := by rw [fs_r (by omega), fs_r (by omega)]
              have hE0 : EI R D (sFe T (nI 0)) := hE
              obtain ⟨c4, D4, g4, y1, y2, y3, y4, y5, y6, y7, y8, y9⟩ := mixN (Γ := Γ) (x := x) (A := A) (B := B) hu (k1 := k1) (ad1 := ad1) (k2 := k2) (ad2 := ad2) (show m1 ≤ 6 by omega) (show m2 ≤ 6 by omega) (m1 + m2) 20 (by omega) (i := 0) (j := 0) (row := nI 0) (by omega) (by omega) (by omega) h3 (a := a0) q3 (w3 R w0 D T hw) rfl (hst.1.to hm12) (g := mFs (mFs g 22 (nI 0)) 23 (iz (-1))) (by rw [e127]; exact (show rM none D (g.1 7) (sFe T (nI 0)) from hm).tri) hE0 (hs1.to k3 hm12) (hs2.to k3 hm12) (by
                rw [i10', i11', fs_n (by omega), fs_s, fs_s]
                exact ⟨rfl, rfl⟩)
              have hm4 : mE g (mFs g4 15 (nI 0)) := (hm12.tr y6).tr (mE.fs (by omega))
              have e47 : (mFs g4 15 (nI 0)).1 7 = g.1 7 := by rw [fs_r (by omega), y7, e127]
              have f22 : (mFs g4 15 (nI 0)).1 0 22 = csI c4 10 := by rw [fs_n (by omega)]; exact y9.1.symm
              have f23 : (mFs g4 15 (nI 0)).1 0 23 = csI c4 11 := by rw [fs_n (by omega)]; exact y9.2.symm
              rw [rows_M (by omega) (by omega) q14 q24, er, Option.bind_some, y2, Option.bind_some]
              by_cases c0 : d = nI 0
              · rw [if_pos c0, if_pos c0]
                unfold fL_rowsOf
                simp only [izN]
                rw [er]
                exact ⟨rr, Dm, mFs g4 15 (nI 0), rfl, rfl, INV.tri hb (Or.inr ⟨R, D, T, hst⟩) hc cK.rf hm4 e47 fs_s⟩
              · rw [if_neg c0, if_neg c0, hc.1.r9, Option.bind_some, hc.1.at15, e3, Option.bind_some, h3.1.r9, Option.bind_some, h3.1.at15, y1, Option.bind_some, y3.1.r9]
                have hfin := INV.tri hb (Or.inr ⟨R, D, T, hst⟩) y3 (k3.tr y4) hm4 e47 fs_s
                unfold fA_goodRows fA_firstGoodRow
                simp only [Option.bind_some, y3.1.at15, y3.1.a1, y3.1.a2, f22, f23]
                by_cases c1' : d = nI 1
                · rw [if_pos c1', if_pos c1']
                  exact ⟨_, D4, _, rfl, rfl, hfin⟩
                · rw [if_neg c1', if_neg c1']
                  exact ⟨_, D4, _, rfl, rfl, hfin⟩
            · rw [if_neg cd, if_neg cd]
              exact ⟨_, Dm, g, rfl, rfl, hI0⟩
      · have cb : inR b n = false := by simpa using cb
        rw [hsb.1 cb, cb]
        simp only [Option.bind_some, if_true, hc.1.r5, hc.wRd WA_9, W_hasStore hu hw hE.1.1]
        rw [if_neg (by simp)]
        exact ⟨_, Dm, g, rfl, rfl, hI0⟩
    · have ca : inR a n = false := by simpa using ca
      have eb : ∃ o, fC_scriptAt u Γ Dm x b = some o := by
        by_cases ca : inR b n = true
        · obtain ⟨k, hk, rfl⟩ := inR_of ca
          exact ⟨_, hsb.2 k hk⟩
        · exact ⟨_, hsb.1 (by simpa using ca)⟩
      obtain ⟨ob, eb⟩ := eb
      rw [hsa.1 ca, ca, eb]
      simp only [Option.bind_some, if_true, hc.1.r5, hc.wRd WA_9, W_hasStore hu hw hE.1.1]
      exact ⟨_, Dm, g, rfl, rfl, hI0⟩
end MIX2
