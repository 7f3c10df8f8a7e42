/-! ===== a script is taken ===== -/
theorem INV.ty {Γ : nx_G} {x A B : Nat} {c c' : CS} {Dm' : nx_M} {g g' : mS} (hb : bas c g) (hs : freI x c g ∨ ∃ R Ds T, stoI x c g R Ds T) (hc' : CC Γ x A B c' Dm') (ht : txI c' g') (hsc : scI c' g') (e2 : csR c' 7 = csR c 7) (e3 : csQ c' 1 = csQ c 1) (e6 : csW c' = csW c) (e1 : ∀ k, (k = 7 ∨ k = 8 ∨ k = 9) → csI c' k = csI c k) (m1 : ∀ i, (i = 4 ∨ i = 7 ∨ i = 8 ∨ i = 10 ∨ i = 13) → g'.1 i = g.1 i) (m2 : ∀ q, (q = 9 ∨ q = 15 ∨ q = 19 ∨ q = 26) → g'.1 0 q = g.1 0 q) : INV Γ x A B Dm' g' := by
  obtain ⟨b1, b2, b3, b4⟩ := hb
  refine ⟨c', hc', ⟨ht, hsc, ?_, (m2 15 (by omega)).trans b4⟩, ?_⟩
  · unfold rfI
    rw [e2, m1 8 (by omega)]
    exact b3
  · rcases hs with h | ⟨R, Ds, T, h⟩
    · left
      unfold freI
      rw [e6, m2 9 (by omega), m1 7 (by omega), e1 9 (by omega), m2 19 (by omega), e1 8 (by omega), e1 7 (by omega), m2 26 (by omega)]
      exact h
    · right
      refine ⟨R, Ds, T, ?_⟩
      unfold stoI rulI pastI imgI
      rw [e6, m2 9 (by omega), m1 7 (by omega), e1 9 (by omega), m2 19 (by omega), e1 8 (by omega), e1 7 (by omega), m2 26 (by omega), m1 10 (by omega), m1 13 (by omega), m1 4 (by omega), e3]
      exact h
def cQs (c : CS) (k : Nat) : CS := (csI c, csR c, upQ (csQ c) 0 k (csP c), csP c, csL c, csW c, csN c, csS c)
def cNs (c : CS) (d : Nat) : CS := (csI c, csR c, csQ c, d, csL c, csW c, upd (csN c) d (nI 0), upR (csS c) d (fun _ => 0))
def nsD (Γ : nx_G) (D : nx_M) : nx_M := (fun b => if b = D.2.1 then some (.inr (3, [.ref (D.2.1 + 1), .int 0])) else if b = D.2.1 + 1 then some (rowE Γ 64 (fun _ => 0)) else D.1 b, D.2.1 + 2, D.2.2 + 66)
theorem newS (u : Nat) (Γ : nx_G) (D : nx_M) : fP_init u Γ (nx_al D (.inr (3, [.null, .int 0])) 2) D.2.1 = some (nsD Γ D) := by
  unfold fP_init
  simp only [Option.bind_some]
  have e : gO (nx_al (nx_al D (.inr (3, [.null, .int 0])) 2) (.inl (Γ.2.2.2.1 0, 64, .inl (fun _ => 0))) 64) D.2.1 3 = some [.null, .int 0] := by
    unfold gO nx_al
    simp
  unfold gPut
  rw [e]
  simp only [Option.bind_some, List.length_cons, List.length_nil, Nat.zero_add, Nat.succ_pos, if_true]
  congr 1
  unfold nsD nx_put nx_al rowE
  refine Prod.ext (funext fun b => ?_) rfl
  dsimp only
  by_cases h1 : b = D.2.1
  · simp [h1]
  · by_cases h2 : b = D.2.1 + 1 <;> simp [h1, h2]
section CMY
variable {Γ : nx_G} {x A B : Nat} {c : CS} {D : nx_M}
theorem CM.qsw (h : CM Γ x c D) {k : Nat} (hk : k < 4) : ∃ D', qAw Γ 3 3 D (x + 6) (nI k) (csP c) = some D' ∧ CM Γ x (cQs c k) D' ∧ D'.2 = D.2 := by
  obtain ⟨h1, h2, h3, h4, h5⟩ := id h
  have eup : upQ (csQ c) 0 k (csP c) 0 = va_up (csQ c 0) k (some (csP c)) := by
    funext j
    unfold upQ va_up
    by_cases e : j = k <;> simp [e]
  refine ⟨nx_put D (x + 6) (fx Γ x (cQs c k) 6), ?_, ⟨fun j hj => ?_, fun a ha => ?_, fun a ha => ?_, fun a ha => ?_, h5⟩, rfl⟩
  · unfold qAw
    rw [h.so SA_p, Option.bind_some, qF_ref (h1 6 fxJ6), Option.bind_some, wq_nI hk (by omega), Option.bind_some]
    show some (nx_put D (x + 6) _) = some (nx_put D (x + 6) (refE Γ 3 4 (upQ (csQ c) 0 k (csP c) 0)))
    rw [eup]
    rfl
  · by_cases e : j = 6
    · rw [e, put_s]
    · rw [put_n (by omega), h1 j hj]
      congr 1
      rcases fxJ_c hj with rfl | rfl | rfl | rfl | rfl | rfl | rfl | rfl | rfl | rfl | rfl | rfl | rfl <;> try rfl
      · exact absurd rfl e
  · have ha2 : isWA x c a := by
      rcases WA_c ha with e1 | e1 | ⟨s, q, hs, e1⟩
      · exact Or.inl e1
      · exact Or.inr (Or.inl e1)
      · have e1 : upQ (csQ c) 0 k (csP c) s q = some a := e1
        unfold upQ at e1
        rw [if_neg (by unfold wSl at hs; omega)] at e1
        exact WA_q hs e1
    have hw := h2 a ha2
    have hf := fx_ne (Γ := Γ) (x := x) (c := c) fxJ6
    exact hw.put (ad_ne hw.1 (h1 6 fxJ6) (Ne.symm (hf.1 _))) (ad_ne hw.2 (h1 6 fxJ6) (Ne.symm (hf.2.2.1 _)))
  · have ha2 : isSA c a := by
      rcases ha with e1 | ⟨q, hq, e1⟩
      · exact Or.inl e1
      · have e1 : upQ (csQ c) 0 k (csP c) 0 q = some a := e1
        unfold upQ at e1
        split at e1
        · exact Or.inl (Option.some.inj e1).symm
        · exact Or.inr ⟨q, hq, e1⟩
    have hw := h3 a ha2
    have hf := fx_ne (Γ := Γ) (x := x) (c := c) fxJ6
    exact hw.put (ad_ne hw.1 (h1 6 fxJ6) (Ne.symm (hf.2.1 _))) (ad_ne hw.2 (h1 6 fxJ6) (Ne.symm (hf.2.2.2 _)))
  · by_cases e : a = x + 6
    · left; omega
    · rw [put_n e] at ha
      exact h4 a ha
theorem CM.nsw (h : CM Γ x c D) : ∃ D', gPut (nsD Γ D) x 7 3 (.ref D.2.1) = some D' ∧ CM Γ x (cNs c D.2.1) D' ∧ D'.2 = (D.2.1 + 2, D.2.2 + 66) := by
  obtain ⟨h1, h2, h3, h4, h5⟩ := id h
  have hnw : ∀ b, b < D.2.1 → (nsD Γ D).1 b = D.1 b := fun b hb => by
    unfold nsD
    dsimp only
    rw [if_neg (by omega), if_neg (by omega)]
  have hlt : ∀ b, D.1 b ≠ none → b < D.2.1 := fun b hb => by have := h4 b hb; omega
  have x0 : D.1 x = some (fx Γ x c 0) := h1 0 fxJ0
  have hf := fx_ne (Γ := Γ) (x := x) (c := c) fxJ0
  refine ⟨nx_put (nsD Γ D) x (fx Γ x (cNs c D.2.1) 0), ?_, ⟨fun j hj => ?_, fun a ha => ?_, fun a ha => ?_, fun a ha => ?_, ?_⟩, rfl⟩
  · unfold gPut
    have e1 : gO (nsD Γ D) x 7 = gO D x 7 := by
      unfold gO
      rw [hnw x (by omega)]
    have eg : gO D x 7 = some _ := h.go (j := 0) fxJ0 rfl
    rw [e1, eg, Option.bind_some, if_pos (by simp)]
    rfl
  · by_cases e : j = 0
    · rw [e]; exact put_s
    · have hj18 : j ≤ 18 := by unfold fxJ at hj; omega
      rw [put_n (by omega), hnw _ (by omega), h1 j hj]
      congr 1
      rcases fxJ_c hj with rfl | rfl | rfl | rfl | rfl | rfl | rfl | rfl | rfl | rfl | rfl | rfl | rfl <;> try rfl
      exact absurd rfl e
  · have hw := h2 a ha
    have l1 := hlt a (by rw [hw.1]; simp)
    have l2 := hlt (a + 1) (by rw [hw.2]; simp)
    have hw' : wAt Γ (nsD Γ D) a (csW c a) := ⟨(hnw a l1).trans hw.1, (hnw _ l2).trans hw.2⟩
    exact hw'.put (ad_ne hw.1 x0 (Ne.symm (hf.1 _))) (ad_ne hw.2 x0 (Ne.symm (hf.2.2.1 _)))
  · show sAt Γ _ a (upd (csN c) D.2.1 (nI 0) a) (upR (csS c) D.2.1 (fun _ => 0) a)
    by_cases e : a = D.2.1
    · subst e
      rw [upd_s, upR_s]
      refine ⟨?_, ?_⟩
      · rw [put_n (by omega)]
        unfold nsD
        simp
        decide +kernel
      · rw [put_n (by omega)]
        unfold nsD
        simp
    · have ha2 : isSA c a := by
        rcases ha with e1 | e1
        · exact absurd e1 e
        · exact Or.inr e1
      have hw := h3 a ha2
      have l1 := hlt a (by rw [hw.1]; simp)
      have l2 := hlt (a + 1) (by rw [hw.2]; simp)
      rw [upd_n e, upR_n e]
      have hw' : sAt Γ (nsD Γ D) a (csN c a) (csS c a) := ⟨(hnw a l1).trans hw.1, (hnw _ l2).trans hw.2⟩
      exact hw'.put (ad_ne hw.1 x0 (Ne.symm (hf.2.1 _))) (ad_ne hw.2 x0 (Ne.symm (hf.2.2.2 _)))
  · show _ ∨ (_ ∧ a < D.2.1 + 2)
    by_cases e : a = x
    · left; omega
    · rw [put_n e] at ha
      by_cases e1 : a < D.2.1
      · rw [hnw a e1] at ha
        have := h4 a ha
        omega
      · by_cases e2 : a < D.2.1 + 2
        · right; omega
        · have : (nsD Γ D).1 a = D.1 a := by
            unfold nsD
            dsimp only
            rw [if_neg (by omega), if_neg (by omega)]
          rw [this] at ha
          have := hlt a ha
          omega
  · show x + 34 ≤ D.2.1 + 2
    omega
end CMY
/-- the draft becomes script k, a new draft is made -/
theorem CC.tk {Γ : nx_G} {x A B : Nat} {c : CS} {D : nx_M} (h : CC Γ x A B c D) {u k : Nat} (hk : k < 4) (h6 : csI c 6 = nI k) : ∃ c' D', ((gR D x 7 2).bind fun q7 => (gI D x 7 4).bind fun x8 => (gR D x 7 3).bind fun q9 => (qAw Γ 3 3 D q7 x8 q9).bind fun D10 => (some (nx_al D10 (.inr (3, [.null, .int 0])) 2)).bind fun D11 => (fP_init u Γ D11 D10.2.1).bind fun D12 => (gPut D12 x 7 3 (.ref D10.2.1)).bind fun D13 => (gI D13 x 7 4).bind fun x14 => (gPut D13 x 7 4 (.int (x14 + (nI 1)))).bind fun D15 => (gI D15 x 7 4).bind fun x16 => some ((x16 - (nI 1)), D15)) = some (nI k, D') ∧ CC Γ x A B c' D' ∧ csI c' 6 = nI (k + 1) ∧ (∀ j, j ≠ 6 → csI c' j = csI c j) ∧ csR c' = csR c ∧ csW c' = csW c ∧ csQ c' 1 = csQ c 1 ∧ csQ c' 0 k = some (csP c) ∧ (∀ i, i ≠ k → csQ c' 0 i = csQ c 0 i) ∧ ∀ a, isSA c a → csN c' a = csN c a ∧ csS c' a = csS c a := by
  obtain ⟨D1, e1, m1, d1⟩ := h.1.qsw hk
  obtain ⟨D2, e2, m2, d2⟩ := m1.nsw
  obtain ⟨D3, e3, m3, d3⟩ := m2.p6 (nI (k + 1))
  have hlt : ∀ a, isSA c a → a < D.2.1 := fun a ha => by
    have := h.1.2.2.2.1 a (by rw [(h.1.2.2.1 a ha).1]; simp)
    have := h.1.2.2.2.2
    omega
  have d10 : D1.2.1 = D.2.1 := by rw [d1]
  refine ⟨cI' (cNs (cQs c k) D1.2.1) 6 (nI (k + 1)), D3, ?_, ⟨m3, ?_⟩, cI_s, fun j hj => cI_n hj, rfl, rfl, ?_, ?_, fun i hi => ?_, fun a ha => ?_⟩
  · rw [h.1.r2, Option.bind_some, h.1.i4, Option.bind_some, h.1.r3, Option.bind_some, h6, e1]
    simp only [Option.bind_some]
    rw [newS, Option.bind_some, e2, Option.bind_some, m2.i4, Option.bind_some]
    have i6 : csI (cNs (cQs c k) D1.2.1) 6 = nI k := h6
    rw [i6, nI_add, e3, Option.bind_some, m3.i4, Option.bind_some]
    have i7 : csI (cI' (cNs (cQs c k) D1.2.1) 6 (nI (k + 1))) 6 = nI (k + 1) := cI_s
    rw [i7, decI]
  · obtain ⟨_, r1, r2, r3, r4, r5, r6, r7⟩ := h
    have q12 : ∀ t i, wSl t i → upQ (csQ c) 0 k (csP c) t i = csQ c t i := fun t i ht => by
      unfold upQ
      rw [if_neg (by unfold wSl at ht; omega)]
    have q0 : ∀ i a, i < 4 → upQ (csQ c) 0 k (csP c) 0 i = some a → (i = k ∧ a = csP c) ∨ (i ≠ k ∧ csQ c 0 i = some a) := fun i a hi ha => by
      unfold upQ at ha
      split at ha
      · next hh => exact Or.inl ⟨hh.2, (Option.some.inj ha).symm⟩
      · next hh => exact Or.inr ⟨fun e => hh ⟨rfl, e⟩, ha⟩
    have nWe : nW (cI' (cNs (cQs c k) D1.2.1) 6 (nI (k + 1))) = nW c := by
      show cnt (fun i => (upQ (csQ c) 0 k (csP c) 1 i).isSome) 40 + cnt (fun i => (upQ (csQ c) 0 k (csP c) 2 i).isSome) 13 = _
      rw [cnt_eq (p := fun i => (csQ c 1 i).isSome) (q := fun i => (upQ (csQ c) 0 k (csP c) 1 i).isSome) (fun j => by simp [upQ]) 40, cnt_eq (p := fun i => (csQ c 2 i).isSome) (q := fun i => (upQ (csQ c) 0 k (csP c) 2 i).isSome) (fun j => by simp [upQ]) 13]
      rfl
    have nSe : nS (cI' (cNs (cQs c k) D1.2.1) 6 (nI (k + 1))) = k + 1 := by
      unfold nS
      rw [cI_s, nI_back (by omega)]
    have nSc : nS c = k := by
      unfold nS
      rw [h6, nI_back (by omega)]
    refine ⟨fun t i a ht ha => r1 t i a ht ((q12 t i ht).symm.trans ha), fun t i s j a ht hs ha hb => r2 t i s j a ht hs ((q12 t i ht).symm.trans ha) ((q12 s j hs).symm.trans hb), fun i a hi ha => ?_, fun i j a hi hj ha hb => ?_, ?_, ?_, ?_⟩
    · show a ≠ D1.2.1
      rw [d10]
      rcases q0 i a hi ha with ⟨_, e⟩ | ⟨_, e⟩
      · have := hlt _ (SA_p (c := c)); omega
      · have := hlt a (Or.inr ⟨i, hi, e⟩); omega
    · rcases q0 i a hi ha with ⟨e, e'⟩ | ⟨e, e'⟩
      · rcases q0 j a hj hb with ⟨f, f'⟩ | ⟨f, f'⟩
        · omega
        · exact absurd e' (r3 j a hj f')
      · rcases q0 j a hj hb with ⟨f, f'⟩ | ⟨f, f'⟩
        · exact absurd f' (r3 i a hi e')
        · exact r4 i j a hi hj e' f'
    · show x + 6 < D1.2.1
      have := m1.2.2.2.2
      omega
    · rw [nWe, nSe, d3, d2, d1]
      show D.2.1 + 2 ≤ _
      omega
    · rw [nWe, nSe, d3, d2, d1]
      show D.2.2 + 66 ≤ _
      omega
  · funext i
    show upQ (csQ c) 0 k (csP c) 1 i = _
    simp [upQ]
  · show upQ (csQ c) 0 k (csP c) 0 k = _
    simp [upQ]
  · show upQ (csQ c) 0 k (csP c) 0 i = _
    simp [upQ, hi]
  · have := hlt a ha
    have hn : a ≠ D1.2.1 := by omega
    exact ⟨upd_n hn, upR_n hn⟩
