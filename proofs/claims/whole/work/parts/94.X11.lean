/-! ===== texts in the class's memory ===== -/
def cG (c : CS) : pS
  | 0 => fun i => match i with
    | 0 => csI c 0
    | 1 => csI c 1
    | 2 => csI c 2
    | 3 => csI c 3
    | 4 => csI c 4
    | _ => csN c (csP c)
  | 1 => csR c 1
  | 2 => csR c 2
  | 3 => csR c 3
  | _ => csS c (csP c)
def cT (c : CS) (g : pS) : CS := (fun k => if k < 5 then g 0 k else csI c k, fun r => if r = 1 then g 1 else if r = 2 then g 2 else if r = 3 then g 3 else csR c r, csQ c, csP c, csL c, csW c, upd (csN c) (csP c) (g 0 5), upR (csS c) (csP c) (g 4))
/-- the same but for the texts -/
def cE (c c' : CS) : Prop := (∀ k, 5 ≤ k → csI c' k = csI c k) ∧ (∀ r, 4 ≤ r → csR c' r = csR c r) ∧ csQ c' = csQ c ∧ csP c' = csP c ∧ csL c' = csL c ∧ csW c' = csW c ∧ ∀ a, a ≠ csP c → csN c' a = csN c a ∧ csS c' a = csS c a
theorem cE.rf {c : CS} : cE c c := ⟨fun _ _ => rfl, fun _ _ => rfl, rfl, rfl, rfl, rfl, fun _ _ => ⟨rfl, rfl⟩⟩
theorem cE.tr {a b c : CS} (h : cE a b) (k : cE b c) : cE a c := by
  obtain ⟨h1, h2, h3, h4, h5, h6, h7⟩ := h
  obtain ⟨k1, k2, k3, k4, k5, k6, k7⟩ := k
  refine ⟨fun q hq => (k1 q hq).trans (h1 q hq), fun q hq => (k2 q hq).trans (h2 q hq), k3.trans h3, k4.trans h4, k5.trans h5, k6.trans h6, fun q hq => ?_⟩
  have e := k7 q (by rw [h4]; exact hq)
  exact ⟨e.1.trans (h7 q hq).1, e.2.trans (h7 q hq).2⟩
theorem cT_E (c : CS) (g : pS) : cE c (cT c g) := by
  refine ⟨fun k hk => if_neg (by omega), fun r hr => ?_, rfl, rfl, rfl, rfl, fun a ha => ⟨upd_n ha, upR_n ha⟩⟩
  show (if r = 1 then _ else _) = _
  rw [if_neg (by omega), if_neg (by omega), if_neg (by omega)]
theorem tW_o {Γ : nx_G} {D : nx_M} {t p a : Nat} {g : pS} (h : a < t ∨ t + 4 < a) (h1 : a ≠ p) (h2 : a ≠ p + 1) : (tW Γ D t p g).1 a = D.1 a := by
  unfold tW
  dsimp only
  rw [if_neg (by omega), if_neg (by omega), if_neg (by omega), if_neg (by omega), if_neg (by omega), if_neg h1, if_neg h2]
theorem fxJ3 : fxJ 3 := Or.inl (by omega)
theorem fxJ2 : fxJ 2 := Or.inl (by omega)
theorem fxJ4 : fxJ 4 := Or.inl (by omega)
theorem fxJ5 : fxJ 5 := Or.inl (by omega)
section CMX
variable {Γ : nx_G} {x A B : Nat} {c : CS} {D : nx_M}
theorem SA_p : isSA c (csP c) := Or.inl rfl
theorem CM.tg (h : CM Γ x c D) (hp : x + 6 < csP c) : tGet Γ D (x + 1) (csP c) = some (cG c) := by
  unfold tGet
  have e1 : gO D (x + 1) 5 = some [.ref (x + 2), .int (csI c 0), .int (csI c 1), .int (csI c 2)] := h.go (j := 1) fxJ1 rfl
  have e2 : gO D (x + 1 + 2) 4 = some [.ref (x + 4), .ref (x + 5), .int (csI c 3), .int (csI c 4)] := h.go (j := 3) fxJ3 rfl
  have e3 := h.so (a := csP c) SA_p
  have a1 : aF Γ D (x + 1 + 1) = some (240, csR c 1) := aF_row (h.1 2 fxJ2)
  have a2 : aF Γ D (x + 1 + 3) = some (3, csR c 2) := aF_row (h.1 4 fxJ4)
  have a3 : aF Γ D (x + 1 + 4) = some (6, csR c 3) := aF_row (h.1 5 fxJ5)
  have a4 : aF Γ D (csP c + 1) = some (64, csS c (csP c)) := aF_row (h.2.2.1 _ SA_p).2
  rw [e1, e2, e3, a1, a2, a3, a4]
  show (if x + 2 = x + 1 + 1 ∧ x + 4 = x + 1 + 3 ∧ x + 5 = x + 1 + 4 ∧ csP c + 1 = csP c + 1 ∧ (240 : Nat) = 240 ∧ (3 : Nat) = 3 ∧ (6 : Nat) = 6 ∧ (64 : Nat) = 64 ∧ x + 1 + 4 < csP c then _ else _) = _
  rw [if_pos (by omega)]
  congr 1
theorem CM.tw (h : CM Γ x c D) (hp : x + 6 < csP c) (g : pS) : CM Γ x (cT c g) (tW Γ D (x + 1) (csP c) g) := by
  obtain ⟨h1, h2, h3, h4, h5⟩ := h
  have hs := h3 _ SA_p
  have hpn : ∀ j, fxJ j → x + j ≠ csP c ∧ x + j ≠ csP c + 1 := fun j hj => ⟨ad_ne (h1 j hj) hs.1 ((fx_ne hj).2.1 _), ad_ne (h1 j hj) hs.2 ((fx_ne hj).2.2.2 _)⟩
  have hrow : ∀ a, (∃ l, D.1 a = some (.inr (6, l))) ∨ (∃ l, D.1 a = some (.inr (3, l))) ∨ (∃ f, D.1 a = some (rowE Γ 514 f)) ∨ (∃ f, D.1 a = some (rowE Γ 64 f)) → a < x + 1 ∨ x + 1 + 4 < a := fun a ha => by
    by_cases e : a < x + 1 ∨ x + 1 + 4 < a
    · exact e
    · exfalso
      obtain ⟨j, hj, rfl⟩ : ∃ j, j < 7 ∧ a = x + j := ⟨a - x, by omega, by omega⟩
      have hf := fx_ne (Γ := Γ) (x := x) (c := c) (j := j) (Or.inl hj)
      rw [h1 j (Or.inl hj)] at ha
      rcases ha with ⟨l, e⟩ | ⟨l, e⟩ | ⟨l, e⟩ | ⟨l, e⟩
      · exact hf.1 l (Option.some.inj e)
      · exact hf.2.1 l (Option.some.inj e)
      · exact hf.2.2.1 l (Option.some.inj e)
      · exact hf.2.2.2 l (Option.some.inj e)
  have hp0 := hrow _ (Or.inr (Or.inl ⟨_, hs.1⟩))
  have hp1 := hrow _ (Or.inr (Or.inr (Or.inr ⟨_, hs.2⟩)))
  refine ⟨fun j hj => ?_, fun a ha => ?_, fun a ha => ?_, fun a ha => ?_, h5⟩
  · have hh := hpn j hj
    rcases fxJ_c hj with rfl | rfl | rfl | rfl | rfl | rfl | rfl | rfl | rfl | rfl | rfl | rfl | rfl
    · rw [tW_o (by omega) hh.1 hh.2, h1 _ hj]; rfl
    · exact tW_t
    · exact tW_r (p := csP c) (by omega) 1 (by omega)
    · exact tW_s
    · exact tW_r (p := csP c) (by omega) 2 (by omega)
    · exact tW_r (p := csP c) (by omega) 3 (by omega)
    · rw [tW_o (by omega) hh.1 hh.2, h1 _ hj]; rfl
    · rw [tW_o (by omega) hh.1 hh.2, h1 _ hj]; rfl
    · rw [tW_o (by omega) hh.1 hh.2, h1 _ hj]; rfl
    · rw [tW_o (by omega) hh.1 hh.2, h1 _ hj]; rfl
    · rw [tW_o (by omega) hh.1 hh.2, h1 _ hj]; rfl
    · rw [tW_o (by omega) hh.1 hh.2, h1 _ hj]; rfl
    · rw [tW_o (by omega) hh.1 hh.2, h1 _ hj]; rfl
  · have hw := h2 a ha
    refine ⟨?_, ?_⟩
    · rw [tW_o (hrow a (Or.inl ⟨_, hw.1⟩)) (ad_ne hw.1 hs.1 (by simp)) (ad_ne hw.1 hs.2 (by simp [rowE]))]; exact hw.1
    · rw [tW_o (hrow _ (Or.inr (Or.inr (Or.inl ⟨_, hw.2⟩)))) (ad_ne hw.2 hs.1 (by simp [rowE])) (ad_ne hw.2 hs.2 (by simp [rowE]))]; exact hw.2
  · show sAt Γ _ a (upd (csN c) (csP c) (g 0 5) a) (upR (csS c) (csP c) (g 4) a)
    by_cases e : a = csP c
    · rw [e, upd_s, upR_s]
      exact ⟨tW_p (by omega), tW_r (t := x + 1) (p := csP c) (by omega) 4 (by omega)⟩
    · rw [upd_n e, upR_n e]
      have hw := h3 a ha
      refine ⟨?_, ?_⟩
      · rw [tW_o (hrow a (Or.inr (Or.inl ⟨_, hw.1⟩))) e (ad_ne hw.1 hs.2 (by simp [rowE]))]; exact hw.1
      · rw [tW_o (hrow _ (Or.inr (Or.inr (Or.inr ⟨_, hw.2⟩)))) (ad_ne hw.2 hs.1 (by simp [rowE])) (by omega)]; exact hw.2
  · by_cases e : D.1 a = none
    · have : a = x + 1 ∨ a = x + 2 ∨ a = x + 3 ∨ a = x + 4 ∨ a = x + 5 ∨ a = csP c ∨ a = csP c + 1 := by
        by_cases k : a < x + 1 ∨ x + 1 + 4 < a
        · by_cases k1 : a = csP c
          · omega
          · by_cases k2 : a = csP c + 1
            · omega
            · rw [tW_o k k1 k2] at ha
              exact absurd e ha
        · omega
      rcases this with q | q | q | q | q | q | q
      · left; omega
      · left; omega
      · left; omega
      · left; omega
      · left; omega
      · rw [q, hs.1] at e; cases e
      · rw [q, hs.2] at e; cases e
    · exact h4 a e
theorem CC.tw (h : CC Γ x A B c D) (g : pS) : CC Γ x A B (cT c g) (tW Γ D (x + 1) (csP c) g) := h.same (h.1.tw h.2.2.2.2.2.1 g) rfl rfl rfl rfl
theorem CC.tr2 (h : CC Γ x A B c D) {β : Type} {F : pS → Option (β × pS)} {r : β × pS} (e : F (cG c) = some r) : tWr2 Γ D (x + 1) (csP c) F = some (r.1, tW Γ D (x + 1) (csP c) r.2) := by
  unfold tWr2
  rw [h.1.tg h.2.2.2.2.2.1, Option.bind_some, e]
  rfl
theorem CC.tv2 (h : CC Γ x A B c D) {F : pS → Option pS} {r : pS} (e : F (cG c) = some r) : tWv2 Γ D (x + 1) (csP c) F = some (tW Γ D (x + 1) (csP c) r) := by
  unfold tWv2
  rw [h.1.tg h.2.2.2.2.2.1, Option.bind_some, e]
  rfl
end CMX
/-- Model's parts that a text leaves as they were: n scripts stand -/
def mX (n : Nat) (g g' : mS) : Prop := (∀ i, i ≠ 0 → i ≠ 1 → i ≠ 2 → i ≠ 3 → i ≠ 5 → i ≠ 6 → g'.1 i = g.1 i) ∧ (∀ q, q ≠ 2 → q ≠ 3 → q ≠ 4 → q ≠ 7 → g'.1 0 q = g.1 0 q) ∧ g'.2 = g.2 ∧ (∀ j, j < n → g'.1 6 j = g.1 6 j) ∧ ∀ j, j < 64 * n → g'.1 5 j = g.1 5 j
theorem INV.tx {Γ : nx_G} {x A B : Nat} {c c' : CS} {Dm Dm' : nx_M} {g g' : mS} {n : Nat} (hc : CC Γ x A B c Dm) (hb : bas c g) (hs : freI x c g ∨ ∃ R Ds T, stoI x c g R Ds T) (hc' : CC Γ x A B c' Dm') (he : cE c c') (hn : g.1 0 12 = nI n) (hn4 : n ≤ 4) (hm : mX n g g') (ht : txI c' g') : INV Γ x A B Dm' g' := by
  obtain ⟨e1, e2, e3, e4, e5, e6, e7⟩ := he
  obtain ⟨m1, m2, m3, m4, m5⟩ := hm
  obtain ⟨b1, ⟨k, k1, k2, k3, k4⟩, b3, b4⟩ := hb
  have kn : k = n := (eqI (by omega) (by omega)).mp (k3.symm.trans hn)
  subst kn
  refine ⟨c', hc', ⟨ht, ⟨k, k1, (e1 6 (by omega)).trans k2, (m2 12 (by omega) (by omega) (by omega) (by omega)).trans k3, fun i hi => ?_⟩, ?_, (m2 15 (by omega) (by omega) (by omega) (by omega)).trans b4⟩, ?_⟩
  · obtain ⟨a, m, a1, a2, a3, a4, a5⟩ := k4 i hi
    have hap := hc.2.2.2.1 i a (by omega) a1
    obtain ⟨f1, f2⟩ := e7 a hap
    refine ⟨a, m, by rw [e3]; exact a1, a2, f1.trans a3, (m4 i hi).trans a4, fun j hj => ?_⟩
    rw [f2]
    refine ⟨(a5 j hj).1, fun w hw => ?_⟩
    rw [m5 _ (by omega)]
    exact (a5 j hj).2 w hw
  · unfold rfI
    rw [e2 7 (by omega), m1 8 (by omega) (by omega) (by omega) (by omega) (by omega) (by omega)]
    exact b3
  · have mq : ∀ j, (j = 9 ∨ j = 19 ∨ j = 26) → g'.1 0 j = g.1 0 j := fun j hj => m2 j (by omega) (by omega) (by omega) (by omega)
    have m7 : g'.1 7 = g.1 7 := m1 7 (by omega) (by omega) (by omega) (by omega) (by omega) (by omega)
    have m10 : g'.1 10 = g.1 10 := m1 10 (by omega) (by omega) (by omega) (by omega) (by omega) (by omega)
    have m13 : g'.1 13 = g.1 13 := m1 13 (by omega) (by omega) (by omega) (by omega) (by omega) (by omega)
    have m44 : g'.1 4 = g.1 4 := m1 4 (by omega) (by omega) (by omega) (by omega) (by omega) (by omega)
    rcases hs with h | ⟨R, Ds, T, h⟩
    · left
      unfold freI
      rw [e6, mq 9 (by omega), m7, e1 9 (by omega), mq 19 (by omega), e1 8 (by omega), e1 7 (by omega), mq 26 (by omega)]
      exact h
    · right
      refine ⟨R, Ds, T, ?_⟩
      unfold stoI rulI pastI imgI
      rw [e6, mq 9 (by omega), m7, e1 9 (by omega), mq 19 (by omega), e1 8 (by omega), e1 7 (by omega), mq 26 (by omega), m10, m13, m44, e3]
      exact h
