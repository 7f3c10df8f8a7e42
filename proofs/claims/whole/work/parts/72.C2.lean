/-! ===== worlds made, levels, copies ===== -/
def wSl (t i : Nat) : Prop := (t = 1 ∧ i < 40) ∨ (t = 2 ∧ i < 13)
def nW (c : CS) : Nat := cnt (fun i => (csQ c 1 i).isSome) 40 + cnt (fun i => (csQ c 2 i).isSome) 13
def nS (c : CS) : Nat := (csI c 6).toInt.toNat
def RD (x A B : Nat) (c : CS) (D : nx_M) : Prop := (∀ t i a, wSl t i → csQ c t i = some a → x + 34 ≤ a) ∧ (∀ t i s j a, wSl t i → wSl s j → csQ c t i = some a → csQ c s j = some a → t = s ∧ i = j) ∧
  (∀ i a, i < 4 → csQ c 0 i = some a → a ≠ csP c) ∧ (∀ i j a, i < 4 → j < 4 → csQ c 0 i = some a → csQ c 0 j = some a → i = j) ∧ x + 6 < csP c ∧ D.2.1 ≤ A + 2 * nW c + 2 * nS c ∧ D.2.2 ≤ B + 515 * nW c + 66 * nS c
def CC (Γ : nx_G) (x A B : Nat) (c : CS) (D : nx_M) : Prop := CM Γ x c D ∧ RD x A B c D
theorem WA_9 {x : Nat} {c : CS} : isWA x c (x + 9) := Or.inl rfl
theorem WA_13 {x : Nat} {c : CS} : isWA x c (x + 13) := Or.inr (Or.inl rfl)
theorem WA_q {x : Nat} {c : CS} {t i a : Nat} (h : wSl t i) (e : csQ c t i = some a) : isWA x c a := by
  rcases h with ⟨rfl, hi⟩ | ⟨rfl, hi⟩
  · exact Or.inr (Or.inr (Or.inl ⟨i, hi, e⟩))
  · exact Or.inr (Or.inr (Or.inr ⟨i, hi, e⟩))
theorem WA_c {x : Nat} {c : CS} {a : Nat} (h : isWA x c a) : a = x + 9 ∨ a = x + 13 ∨ ∃ t i, wSl t i ∧ csQ c t i = some a := by
  rcases h with h | h | ⟨i, hi, e⟩ | ⟨i, hi, e⟩
  · exact Or.inl h
  · exact Or.inr (Or.inl h)
  · exact Or.inr (Or.inr ⟨1, i, Or.inl ⟨rfl, hi⟩, e⟩)
  · exact Or.inr (Or.inr ⟨2, i, Or.inr ⟨rfl, hi⟩, e⟩)
/-- the same but for apart's numbers, the draws, worlds of levels, worlds made -/
def cK (x : Nat) (c c' : CS) : Prop := (∀ k, k < 10 → csI c' k = csI c k) ∧ csR c' = csR c ∧ csQ c' 0 = csQ c 0 ∧ csP c' = csP c ∧ csN c' = csN c ∧ csS c' = csS c ∧ (∀ i a, i < 40 → csQ c 1 i = some a → csQ c' 1 i = some a ∧ csW c' a = csW c a) ∧ csW c' (x + 9) = csW c (x + 9) ∧ csW c' (x + 13) = csW c (x + 13)
theorem cK.rf {x : Nat} {c : CS} : cK x c c := ⟨fun _ _ => rfl, rfl, rfl, rfl, rfl, rfl, fun _ _ _ h => ⟨h, rfl⟩, rfl, rfl⟩
theorem cK.tr {x : Nat} {a b c : CS} (h : cK x a b) (k : cK x b c) : cK x a c := by
  obtain ⟨h1, h2, h3, h4, h5, h6, h7, h8, h9⟩ := h
  obtain ⟨k1, k2, k3, k4, k5, k6, k7, k8, k9⟩ := k
  refine ⟨fun q hq => (k1 q hq).trans (h1 q hq), k2.trans h2, k3.trans h3, k4.trans h4, k5.trans h5, k6.trans h6, fun i q hi e => ?_, k8.trans h8, k9.trans h9⟩
  obtain ⟨e1, e2⟩ := h7 i q hi e
  obtain ⟨e3, e4⟩ := k7 i q hi e1
  exact ⟨e3, e4.trans e2⟩
/-- .. and the levels that there were are as they were -/
def cJ (x : Nat) (c c' : CS) : Prop := cK x c c' ∧ csI c' = csI c ∧ csL c' = csL c ∧ ∀ i a, i < 13 → csQ c 2 i = some a → csQ c' 2 i = some a ∧ csW c' a = csW c a
theorem cJ.rf {x : Nat} {c : CS} : cJ x c c := ⟨cK.rf, rfl, rfl, fun _ _ _ h => ⟨h, rfl⟩⟩
section CMT
variable {Γ : nx_G} {x A B : Nat} {c : CS} {D : nx_M}
theorem CC.same (h : CC Γ x A B c D) {c' : CS} {D' : nx_M} (hm : CM Γ x c' D') (hq : csQ c' = csQ c) (hp : csP c' = csP c) (h6 : csI c' 6 = csI c 6) (hd : D'.2 = D.2) : CC Γ x A B c' D' := by
  obtain ⟨_, r1, r2, r3, r4, r5, r6, r7⟩ := h
  refine ⟨hm, ?_⟩
  unfold RD nW nS
  rw [hq, hp, h6, hd]
  exact ⟨r1, r2, r3, r4, r5, r6, r7⟩
theorem CC.wr (h : CC Γ x A B c D) {a : Nat} (ha : isWA x c a) (f : Nat → Int32) : CC Γ x A B (cW' c a f) (wPut Γ D (a + 1) f) := h.same (h.1.w ha f) rfl rfl rfl rfl
/-- a world is written -/
theorem CC.wWr (h : CC Γ x A B c D) {β : Type} {a : Nat} (ha : isWA x c a) {F : (Nat → Int32) → Option (β × (Nat → Int32))} {r : β × (Nat → Int32)} (e : F (csW c a) = some r) : wWr Γ D a F = some (r.1, wPut Γ D (a + 1) r.2) := by
  show (wGet Γ D a).bind _ = _
  rw [h.1.wg ha, Option.bind_some, e]
  rfl
theorem CC.wRd (h : CC Γ x A B c D) {β : Type} {a : Nat} (ha : isWA x c a) (F : (Nat → Int32) → Option β) : wRd Γ D a F = F (csW c a) := wRd_eq (h.1.wg ha) F
theorem CC.bc (h : CC Γ x A B c D) {u a b : Nat} (ha : isWA x c a) (hb : isWA x c b) : fW_become u Γ D a b = some (wPut Γ D (a + 1) (va_cpy (csW c b) (csW c a) 0 0 514)) := by
  unfold fW_become
  rw [h.1.wg ha, h.1.wg hb]
  rfl
/-- a world more -/
def nwD (Γ : nx_G) (D : nx_M) : nx_M := (fun b => if b = D.2.1 then some (.inr (6, [.ref (D.2.1 + 1)])) else if b = D.2.1 + 1 then some (rowE Γ 514 (fun _ => 0)) else D.1 b, D.2.1 + 2, D.2.2 + 515)
theorem newW (u : Nat) (Γ : nx_G) (D : nx_M) : fW_init u Γ (nx_al D (.inr (6, [.null])) 1) D.2.1 = some (nwD Γ D) := by
  unfold fW_init
  simp only [Option.bind_some]
  have e : gO (nx_al (nx_al D (.inr (6, [.null])) 1) (.inl (Γ.2.2.2.1 0, 514, .inl (fun _ => 0))) 514) D.2.1 6 = some [.null] := by
    unfold gO nx_al
    simp
  unfold gPut
  rw [e]
  simp only [Option.bind_some, List.length_singleton, Nat.zero_lt_one, if_true]
  congr 1
  unfold nwD nx_put nx_al rowE
  refine Prod.ext (funext fun b => ?_) rfl
  dsimp only
  by_cases h1 : b = D.2.1
  · simp [h1]
  · by_cases h2 : b = D.2.1 + 1 <;> simp [h1, h2]
def upQ (q : Nat → Nat → Option Nat) (t i a : Nat) : Nat → Nat → Option Nat := fun s j => if s = t ∧ j = i then some a else q s j
def cQ' (c : CS) (t i a : Nat) : CS := (csI c, csR c, upQ (csQ c) t i a, csP c, csL c, upR (csW c) a (fun _ => 0), csN c, csS c)
theorem CM.nw (h : CM Γ x c D) {t i j0 n : Nat} (ht : (t = 1 ∧ j0 = 12 ∧ n = 40) ∨ (t = 2 ∧ j0 = 16 ∧ n = 13)) (hi : i < n) : ∃ D', qAw Γ 2 6 (nwD Γ D) (x + j0) (nI i) D.2.1 = some D' ∧ CM Γ x (cQ' c t i D.2.1) D' ∧ D'.2 = (D.2.1 + 2, D.2.2 + 515) := by
  obtain ⟨h1, h2, h3, h4, h5⟩ := h
  have hj0 : fxJ j0 := by unfold fxJ; omega
  have efx : fx Γ x c j0 = refE Γ 2 n (csQ c t) := by rcases ht with ⟨rfl, rfl, rfl⟩ | ⟨rfl, rfl, rfl⟩ <;> rfl
  have eup : upQ (csQ c) t i D.2.1 t = va_up (csQ c t) i (some D.2.1) := by
    funext j
    unfold upQ va_up
    by_cases e : j = i <;> simp [e]
  have efx' : fx Γ x (cQ' c t i D.2.1) j0 = refE Γ 2 n (va_up (csQ c t) i (some D.2.1)) := by
    rw [← eup]
    rcases ht with ⟨rfl, rfl, rfl⟩ | ⟨rfl, rfl, rfl⟩ <;> rfl
  have hnw : ∀ b, b < D.2.1 → (nwD Γ D).1 b = D.1 b := fun b hb => by
    unfold nwD
    dsimp only
    rw [if_neg (by omega), if_neg (by omega)]
  have hlt : ∀ b, D.1 b ≠ none → b < D.2.1 := fun b hb => by have := h4 b hb; omega
  refine ⟨nx_put (nwD Γ D) (x + j0) (fx Γ x (cQ' c t i D.2.1) j0), ?_, ⟨fun j hj => ?_, fun a ha => ?_, fun a ha => ?_, fun a ha => ?_, ?_⟩, rfl⟩
  · have e1 : gO (nwD Γ D) D.2.1 6 = some [.ref (D.2.1 + 1)] := by
      unfold gO nwD
      simp
    have e2 : (nwD Γ D).1 (x + j0) = some (refE Γ 2 n (csQ c t)) := by
      rw [hnw _ (by omega), h1 j0 hj0, efx]
    unfold qAw
    rw [e1, Option.bind_some, qF_ref e2, Option.bind_some, wq_nI hi (by omega), Option.bind_some, efx']
    rfl
  · by_cases e : j = j0
    · rw [e, put_s]
    · have hj18 : j ≤ 18 := by unfold fxJ at hj; omega
      rw [put_n (by omega), hnw _ (by omega), h1 j hj]
      congr 1
      rcases fxJ_c hj with rfl | rfl | rfl | rfl | rfl | rfl | rfl | rfl | rfl | rfl | rfl | rfl | rfl <;> try rfl
      · show refE Γ 3 4 _ = refE Γ 3 4 (upQ (csQ c) t i D.2.1 0)
        congr 1
        funext q
        unfold upQ
        rw [if_neg (by omega)]
      · show refE Γ 2 40 _ = refE Γ 2 40 (upQ (csQ c) t i D.2.1 1)
        congr 1
        funext q
        unfold upQ
        rw [if_neg (by omega)]
      · show refE Γ 2 13 _ = refE Γ 2 13 (upQ (csQ c) t i D.2.1 2)
        congr 1
        funext q
        unfold upQ
        rw [if_neg (by omega)]
  · show wAt Γ _ a (upR (csW c) D.2.1 (fun _ => 0) a)
    by_cases e : a = D.2.1
    · subst e
      rw [upR_s]
      refine ⟨?_, ?_⟩
      · rw [put_n (by omega)]
        unfold nwD
        simp
      · rw [put_n (by omega)]
        unfold nwD
        simp
    · have ha2 : isWA x c a := by
        rcases WA_c ha with e1 | e1 | ⟨s, q, hs, e1⟩
        · exact Or.inl e1
        · exact Or.inr (Or.inl e1)
        · have e1 : upQ (csQ c) t i D.2.1 s q = some a := e1
          unfold upQ at e1
          split at e1
          · cases e1; exact absurd rfl e
          · exact WA_q hs e1
      have hw := h2 a ha2
      have l1 := hlt a (by rw [hw.1]; simp)
      have l2 := hlt (a + 1) (by rw [hw.2]; simp)
      rw [upR_n e]
      have hw' : wAt Γ (nwD Γ D) a (csW c a) := ⟨(hnw a l1).trans hw.1, (hnw _ l2).trans hw.2⟩
      have hf := fx_ne (Γ := Γ) (x := x) (c := c) hj0
      exact hw'.put (ad_ne hw.1 (h1 j0 hj0) (Ne.symm (hf.1 _))) (ad_ne hw.2 (h1 j0 hj0) (Ne.symm (hf.2.2.1 _)))
  · have ha2 : isSA c a := by
      rcases ha with e1 | ⟨q, hq, e1⟩
      · exact Or.inl e1
      · have e1 : upQ (csQ c) t i D.2.1 0 q = some a := e1
        unfold upQ at e1
        rw [if_neg (by omega)] at e1
        exact Or.inr ⟨q, hq, e1⟩
    have hw := h3 a ha2
    have l1 := hlt a (by rw [hw.1]; simp)
    have l2 := hlt (a + 1) (by rw [hw.2]; simp)
    have hw' : sAt Γ (nwD Γ D) a (csN c a) (csS c a) := ⟨(hnw a l1).trans hw.1, (hnw _ l2).trans hw.2⟩
    have hf := fx_ne (Γ := Γ) (x := x) (c := c) hj0
    exact hw'.put (ad_ne hw.1 (h1 j0 hj0) (Ne.symm (hf.2.1 _))) (ad_ne hw.2 (h1 j0 hj0) (Ne.symm (hf.2.2.2 _)))
  · show _ ∨ (_ ∧ a < D.2.1 + 2)
    by_cases e : a = x + j0
    · left; omega
    · rw [put_n e] at ha
      by_cases e1 : a < D.2.1
      · rw [hnw a e1] at ha
        have := h4 a ha
        omega
      · by_cases e2 : a < D.2.1 + 2
        · right; omega
        · have : (nwD Γ D).1 a = D.1 a := by
            unfold nwD
            dsimp only
            rw [if_neg (by omega), if_neg (by omega)]
          rw [this] at ha
          have := hlt a ha
          omega
  · show x + 34 ≤ D.2.1 + 2
    omega
theorem cnt_up {p q : Nat → Bool} {i : Nat} (h0 : p i = false) (h1 : q i = true) (hn : ∀ j, j ≠ i → q j = p j) : ∀ n, cnt q n = cnt p n + (if i < n then 1 else 0) := by
  intro n
  induction n with
  | zero => rfl
  | succ n ih =>
    show cnt q n + (if q n = true then 1 else 0) = cnt p n + (if p n = true then 1 else 0) + _
    rw [ih]
    by_cases e : n = i
    · subst e
      rw [h0, h1]
      simp
    · rw [hn n e]
      have e1 : (if i < n + 1 then 1 else 0) = (if i < n then 1 else 0 : Nat) := by
        by_cases c : i < n
        · rw [if_pos c, if_pos (show i < n + 1 by omega)]
        · rw [if_neg c, if_neg (show ¬ i < n + 1 by omega)]
      omega
theorem cnt_eq {p q : Nat → Bool} (h : ∀ j, q j = p j) (n : Nat) : cnt q n = cnt p n := by
  have : q = p := funext h
  rw [this]
theorem CC.nw (h : CC Γ x A B c D) {t i j0 n : Nat} (ht : (t = 1 ∧ j0 = 12 ∧ n = 40) ∨ (t = 2 ∧ j0 = 16 ∧ n = 13)) (hi : i < n) (hn : csQ c t i = none) : ∃ D', qAw Γ 2 6 (nwD Γ D) (x + j0) (nI i) D.2.1 = some D' ∧ CC Γ x A B (cQ' c t i D.2.1) D' ∧ cJ x c (cQ' c t i D.2.1) := by
  obtain ⟨D', e, hm, h2⟩ := h.1.nw ht hi
  obtain ⟨hM, r1, r2, r3, r4, r5, r6, r7⟩ := h
  have hold : ∀ s j a, wSl s j → csQ c s j = some a → csQ (cQ' c t i D.2.1) s j = some a ∧ a < D.2.1 := fun s j a hs ha => by
    have hw := hM.2.1 a (WA_q hs ha)
    have := hM.2.2.2.1 a (by rw [hw.1]; simp)
    have hx := hM.2.2.2.2
    refine ⟨?_, by omega⟩
    show upQ (csQ c) t i D.2.1 s j = some a
    unfold upQ
    rw [if_neg (fun hh => by rw [hh.1, hh.2, hn] at ha; cases ha)]
    exact ha
  have hnew : ∀ s j a, csQ (cQ' c t i D.2.1) s j = some a → (s = t ∧ j = i ∧ a = D.2.1) ∨ csQ c s j = some a := fun s j a ha => by
    have ha : upQ (csQ c) t i D.2.1 s j = some a := ha
    unfold upQ at ha
    split at ha
    · next hh => exact Or.inl ⟨hh.1, hh.2, (Option.some.inj ha).symm⟩
    · exact Or.inr ha
  have hx := hM.2.2.2.2
  have eW : nW (cQ' c t i D.2.1) = nW c + 1 := by
    unfold nW
    rcases ht with ⟨rfl, rfl, rfl⟩ | ⟨rfl, rfl, rfl⟩
    · rw [cnt_up (p := fun i => (csQ c 1 i).isSome) (q := fun i' => (csQ (cQ' c 1 i D.2.1) 1 i').isSome) (i := i) (by simp [hn]) (by show (upQ (csQ c) 1 i D.2.1 1 i).isSome = true; simp [upQ]) (fun j hj => by show (upQ (csQ c) 1 i D.2.1 1 j).isSome = _; simp [upQ, hj]) 40, if_pos hi, cnt_eq (p := fun i => (csQ c 2 i).isSome) (q := fun i' => (csQ (cQ' c 1 i D.2.1) 2 i').isSome) (fun j => by show (upQ (csQ c) 1 i D.2.1 2 j).isSome = _; simp [upQ]) 13]
      omega
    · rw [cnt_up (p := fun i => (csQ c 2 i).isSome) (q := fun i' => (csQ (cQ' c 2 i D.2.1) 2 i').isSome) (i := i) (by simp [hn]) (by show (upQ (csQ c) 2 i D.2.1 2 i).isSome = true; simp [upQ]) (fun j hj => by show (upQ (csQ c) 2 i D.2.1 2 j).isSome = _; simp [upQ, hj]) 13, if_pos hi, cnt_eq (p := fun i => (csQ c 1 i).isSome) (q := fun i' => (csQ (cQ' c 2 i D.2.1) 1 i').isSome) (fun j => by show (upQ (csQ c) 2 i D.2.1 1 j).isSome = _; simp [upQ]) 40]
      omega
  refine ⟨D', e, ⟨hm, fun s j a hs ha => ?_, fun s j s' j' a hs hs' ha ha' => ?_, fun j a hj ha => ?_, fun j q a hj hq ha hb => ?_, r5, ?_, ?_⟩, ⟨fun _ _ => rfl, rfl, ?_, rfl, rfl, rfl, fun j a hj ha => ?_, ?_, ?_⟩, rfl, rfl, fun j a hj ha => ?_⟩
  · rcases hnew s j a ha with ⟨_, _, e3⟩ | e3
    · omega
    · exact r1 s j a hs e3
  · rcases hnew s j a ha with ⟨a1, a2, a3⟩ | a3
    · rcases hnew s' j' a ha' with ⟨b1, b2, b3⟩ | b3
      · exact ⟨a1.trans b1.symm, a2.trans b2.symm⟩
      · have := (hold s' j' a hs' b3).2; omega
    · rcases hnew s' j' a ha' with ⟨b1, b2, b3⟩ | b3
      · have := (hold s j a hs a3).2; omega
      · exact r2 s j s' j' a hs hs' a3 b3
  · rcases hnew 0 j a ha with ⟨a1, _, _⟩ | a3
    · omega
    · exact r3 j a hj a3
  · rcases hnew 0 j a ha with ⟨a1, _, _⟩ | a3
    · omega
    · rcases hnew 0 q a hb with ⟨b1, _, _⟩ | b3
      · omega
      · exact r4 j q a hj hq a3 b3
  · rw [h2, eW]
    show D.2.1 + 2 ≤ A + 2 * (nW c + 1) + 2 * nS c
    omega
  · rw [h2, eW]
    show D.2.2 + 515 ≤ B + 515 * (nW c + 1) + 66 * nS c
    omega
  · funext q
    show upQ (csQ c) t i D.2.1 0 q = _
    unfold upQ
    rw [if_neg (by omega)]
  · obtain ⟨a1, a2⟩ := hold 1 j a (Or.inl ⟨rfl, hj⟩) ha
    refine ⟨a1, ?_⟩
    show upR (csW c) D.2.1 _ a = _
    rw [upR_n (by omega)]
  · show upR (csW c) D.2.1 _ _ = _
    rw [upR_n (by omega)]
  · show upR (csW c) D.2.1 _ _ = _
    rw [upR_n (by omega)]
  · obtain ⟨a1, a2⟩ := hold 2 j a (Or.inr ⟨rfl, hj⟩) ha
    refine ⟨a1, ?_⟩
    show upR (csW c) D.2.1 _ a = _
    rw [upR_n (by omega)]
theorem lv_ix {d : Nat} (h : d ≤ 12) : (if nI 0 < (if nI 12 < nI d then nI 12 else nI d) then (if nI 12 < nI d then nI 12 else nI d) else nI 0) = nI d := by
  rw [if_neg (show ¬ nI 12 < nI d by rw [ltI (by omega) (by omega)]; omega)]
  by_cases c : d = 0
  · rw [c, if_neg (by rw [ltI (by omega) (by omega)]; omega)]
  · rw [if_pos (by rw [ltI (by omega) (by omega)]; omega)]
/-- a level's world, made if it isn't there -/
theorem CC.lv (h : CC Γ x A B c D) (u : Nat) {d : Nat} (hd : d ≤ 12) : ∃ a c' D', fA_level u Γ D (x + 15) (nI d) = some (some a, D') ∧ CC Γ x A B c' D' ∧ csQ c' 2 d = some a ∧ cJ x c c' := by
  unfold fA_level
  simp only [izN]
  rw [lv_ix hd, h.1.a0, Option.bind_some, h.1.ql (by omega), Option.bind_some]
  cases e : csQ c 2 d with
  | some a =>
    rw [if_neg (by simp)]
    simp only [Option.bind_some]
    rw [h.1.a0, Option.bind_some, h.1.ql (by omega), e]
    exact ⟨a, c, D, rfl, h, e, cJ.rf⟩
  | none =>
    obtain ⟨D', e2, h2, h3⟩ := h.nw (t := 2) (j0 := 16) (n := 13) (i := d) (Or.inr ⟨rfl, rfl, rfl⟩) (by omega) e
    rw [if_pos rfl]
    simp only [Option.bind_some]
    rw [newW u Γ D]
    simp only [Option.bind_some]
    rw [e2]
    simp only [Option.bind_some]
    have e3 : csQ (cQ' c 2 d D.2.1) 2 d = some D.2.1 := by
      show upQ (csQ c) 2 d D.2.1 2 d = _
      simp [upQ]
    rw [h2.1.a0, Option.bind_some, h2.1.ql (by omega), e3]
    exact ⟨_, _, _, rfl, h2, e3, h3⟩
/-- a world of a level is written -/
theorem cK.lw (hr : RD x A B c D) {d a : Nat} (hd : d < 13) (e : csQ c 2 d = some a) (f : Nat → Int32) : cK x c (cW' c a f) := by
  have h34 := hr.1 2 d a (Or.inr ⟨rfl, hd⟩) e
  refine ⟨fun _ _ => rfl, rfl, rfl, rfl, rfl, rfl, fun i b hi hb => ⟨hb, ?_⟩, ?_, ?_⟩
  · show upR (csW c) a f b = _
    rw [upR_n]
    rintro rfl
    have := (hr.2.1 1 i 2 d b (Or.inl ⟨rfl, hi⟩) (Or.inr ⟨rfl, hd⟩) hb e).1
    omega
  · show upR (csW c) a f _ = _
    rw [upR_n (by omega)]
  · show upR (csW c) a f _ = _
    rw [upR_n (by omega)]
end CMT
/-! copies of rows -/
theorem RW.cp {R : ER} {w0 : Int32} {D : Nat → List De} {f : Nat → Int32} {T : ET} {f' : Nat → Int32} (h : RW R w0 D f T) (hf : ∀ j, j < 514 → f' j = f j) : RW R w0 D f' T := by
  obtain ⟨r, h4, h5, h6, hh, hsd, hrk, hds, hvs, hl⟩ := h
  refine ⟨r.kept (fun j hj => hf j (by omega)), by rw [hf _ (by omega)]; exact h4, by rw [hf _ (by omega)]; exact h5, by rw [hf _ (by omega)]; exact h6, hh.kept (hf _ (by omega)) (fun j _ _ => hf j (by omega)), fun c' s' hc' hs' => by rw [hf _ (by omega)]; exact hsd c' s' hc' hs', fun s' k' hs' hk' => by rw [hf _ (by omega)]; exact hrk s' k' hs' hk', fun s' hs' => (hds s' hs').kept (hf _ (by omega)) (fun i hi => hf _ (by omega)), fun k' hk' => ?_, ?_⟩
  · obtain ⟨b1, b2, b3⟩ := hvs k' hk'
    refine ⟨b1, by rw [hf _ (by omega)]; exact b2, fun i v hi => ?_⟩
    have hil := (List.getElem?_eq_some_iff.mp hi).1
    obtain ⟨a, b, c, d⟩ := b3 i v hi
    exact ⟨by rw [hf _ (by omega)]; exact a, by rw [hf _ (by omega)]; exact b, by rw [hf _ (by omega)]; exact c, by rw [hf _ (by omega)]; exact d⟩
  · obtain ⟨l1, l2, n, l3, l4, l5⟩ := hl
    exact ⟨l1, by rw [hf _ (by omega)]; exact l2, n, l3, by rw [hf _ (by omega)]; exact l4, fun i e he => by rw [hf _ (by omega)]; exact l5 i e he⟩
theorem RW.cpy {R : ER} {w0 : Int32} {D : Nat → List De} {f : Nat → Int32} {T : ET} (h : RW R w0 D f T) (f2 : Nat → Int32) : RW R w0 D (va_cpy f f2 0 0 514) T := h.cp (fun j hj => by rw [pk_cpy_in (by omega) (by omega)]; congr 1; omega)
theorem rM.cp {D : Nat → List De} {f f' : Nat → Int32} {T : ET} (h : rM none D f T) (hf : ∀ j, j < 820 → f' j = f j) : rM none D f' T := by
  obtain ⟨h4, h5, hh, hsd, hrk, hds, hvs, hl⟩ := h
  refine ⟨by rw [hf _ (by omega)]; exact h4, by rw [hf _ (by omega)]; exact h5, hh.kept (fun j _ _ => hf j (by omega)), fun c' s' hc' hs' => by rw [hf _ (by omega)]; exact hsd c' s' hc' hs', fun s' k' hs' hk' => by rw [hf _ (by omega)]; exact hrk s' k' hs' hk', fun s' hs' => ?_, fun k' hk' => ?_, ?_⟩
  · obtain ⟨b1, b2, b3⟩ := hds s' hs'
    refine ⟨b1, by rw [hf _ (by omega)]; exact b2, fun i v hi => ?_⟩
    have hil := (List.getElem?_eq_some_iff.mp hi).1
    obtain ⟨a, b, c⟩ := b3 i v hi
    exact ⟨by rw [hf _ (by omega)]; exact a, by rw [hf _ (by omega)]; exact b, by rw [hf _ (by omega)]; exact c⟩
  · obtain ⟨b1, b2, b3⟩ := hvs k' hk'
    refine ⟨b1, by rw [hf _ (by omega)]; exact b2, fun i v hi => ?_⟩
    have hil := (List.getElem?_eq_some_iff.mp hi).1
    obtain ⟨a, b, c, d⟩ := b3 i v hi
    exact ⟨by rw [hf _ (by omega)]; exact a, by rw [hf _ (by omega)]; exact b, by rw [hf _ (by omega)]; exact c, by rw [hf _ (by omega)]; exact d⟩
  · exact logM.kept (show logM f (tLg T) from hl) (fun j _ h2 => hf j h2)
