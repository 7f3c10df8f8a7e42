/-! ===== the law's memory: LateStamps' part D, the Model g, the row out ===== -/
def outE (Γ : nx_G) (f : Nat → Int64) : va_E := .inl (Γ.2.2.2.1 1, 1, .inr (.inl f))
def lwM (Γ : nx_G) (x : Nat) (g : mS) (f : Nat → Int64) : Nat → Option va_E := fun a => if a = x + 19 then some (.inr (8, mfl (x + 19) g)) else if x + 19 < a ∧ a ≤ x + 19 + 13 then some (.inl (Γ.2.2.2.1 0, mlen (a - (x + 19)), .inl (g.1 (a - (x + 19))))) else if a = x + 33 then some (outE Γ f) else none
def LM (Γ : nx_G) (x : Nat) (D : nx_M) (g : mS) (f : Nat → Int64) : nx_M := ov (lwM Γ x g f) D
/-- the Model's cells and out are not LateStamps' -/
def fr19 (x : Nat) (D : nx_M) : Prop := ∀ a, x + 19 ≤ a → a < x + 34 → D.1 a = none
theorem INV.fr {Γ : nx_G} {x A B : Nat} {D : nx_M} {g : mS} (h : INV Γ x A B D g) : fr19 x D := by
  obtain ⟨c, hc, _⟩ := h
  intro a h1 h2
  by_cases e : D.1 a = none
  · exact e
  · have := hc.1.2.2.2.1 a e
    omega
section LMS
variable {Γ : nx_G} {x : Nat} {D : nx_M} {g g' : mS} {f f' : Nat → Int64}
theorem LM_n (h : fr19 x D) {a : Nat} (h1 : x + 19 ≤ a) (h2 : a < x + 34) : (LM Γ x D g f).1 a = lwM Γ x g f a := by
  unfold LM ov
  dsimp only
  rw [h a h1 h2]
theorem LM_m (h : fr19 x D) : mW Γ (LM Γ x D g f) (x + 19) g' = LM Γ x D g' f := by
  unfold mW
  refine Prod.ext (funext fun a => ?_) rfl
  dsimp only
  by_cases c : x + 19 ≤ a ∧ a < x + 34
  · rw [LM_n h c.1 c.2, LM_n h c.1 c.2]
    unfold lwM
    by_cases c1 : a = x + 19
    · rw [if_pos c1, if_pos c1]
    · rw [if_neg c1, if_neg c1]
      by_cases c2 : x + 19 < a ∧ a ≤ x + 19 + 13
      · rw [if_pos c2, if_neg c1, if_pos c2]
      · rw [if_neg c2, if_neg c2, if_neg c1, if_neg c2]
  · rw [if_neg (by omega), if_neg (by omega)]
    unfold LM ov
    dsimp only
    have e : lwM Γ x g f a = lwM Γ x g' f a := by
      unfold lwM
      rw [if_neg (by omega), if_neg (by omega), if_neg (by omega)]
      rw [if_neg (by omega), if_neg (by omega)]
    rw [e]
theorem LM_out (h : fr19 x D) : (LM Γ x D g f).1 (x + 33) = some (outE Γ f) := by
  rw [LM_n h (by omega) (by omega)]
  unfold lwM
  rw [if_neg (by omega), if_neg (by omega), if_pos rfl]
theorem LM_po (h : fr19 x D) : nx_put (LM Γ x D g f) (x + 33) (outE Γ f') = LM Γ x D g f' := by
  unfold nx_put
  refine Prod.ext (funext fun a => ?_) rfl
  dsimp only
  by_cases c : a = x + 33
  · rw [if_pos c, c, LM_out h]
  · rw [if_neg c]
    unfold LM ov
    dsimp only
    have e : lwM Γ x g f a = lwM Γ x g f' a := by
      unfold lwM
      rw [if_neg c, if_neg c]
    rw [e]
end LMS
/-- room that others take -/
theorem INV.mo {Γ : nx_G} {x A B : Nat} {D : nx_M} {g : mS} (h : INV Γ x A B D g) (n k : Nat) : INV Γ x (A + n) (B + k) (D.1, D.2.1 + n, D.2.2 + k) g := by
  obtain ⟨c, ⟨⟨h1, h2, h3, h4, h5⟩, r1, r2, r3, r4, r5, r6, r7⟩, hb, hs⟩ := h
  refine ⟨c, ⟨⟨h1, h2, h3, fun a ha => ?_, ?_⟩, r1, r2, r3, r4, r5, ?_, ?_⟩, hb, hs⟩
  · have := h4 a ha
    show _ ∨ (_ ∧ a < D.2.1 + n)
    omega
  · show x + 34 ≤ D.2.1 + n
    omega
  · show D.2.1 + n ≤ A + n + _ + _
    omega
  · show D.2.2 + k ≤ B + k + _ + _
    omega
theorem cnt_leN (p : Nat → Bool) (n : Nat) : cnt p n ≤ n := by
  induction n with
  | zero => exact Nat.le_refl _
  | succ n ih =>
    show cnt p n + (if p n = true then 1 else 0) ≤ n + 1
    split <;> omega
/-- how much there can be -/
theorem INV.room {Γ : nx_G} {x A B : Nat} {D : nx_M} {g : mS} (h : INV Γ x A B D g) : D.2.1 ≤ A + 114 ∧ D.2.2 ≤ B + 27559 := by
  obtain ⟨c, ⟨_, _, _, _, _, _, r6, r7⟩, hb, _⟩ := h
  obtain ⟨n, n1, n2, _⟩ := hb.2.1
  have e1 : nW c ≤ 53 := by
    unfold nW
    have := cnt_leN (fun i => (csQ c 1 i).isSome) 40
    have := cnt_leN (fun i => (csQ c 2 i).isSome) 13
    omega
  have e2 : nS c ≤ 4 := by
    unfold nS
    rw [n2, nI_back (by omega)]
    exact n1
  omega
/-- the law's memory when all is made -/
theorem LM_0 {Γ : nx_G} {x s : Nat} : ov (fun _ => none) (nx_al (lm x (L19 Γ x ++ L14 Γ (x + 19)) s) (outE Γ (fun _ => 0)) 1) = LM Γ x ((lm x (L19 Γ x) s).1, x + 34, s + 1) g00 (fun _ => 0) := by
  rw [lm_al]
  unfold LM ov
  refine Prod.ext (funext fun a => ?_) ?_
  · dsimp only
    by_cases c0 : a < x
    · have e1 : (lm x (L19 Γ x ++ L14 Γ (x + 19) ++ [outE Γ (fun _ => 0)]) (s + 1)).1 a = none := if_pos c0
      have e2 : (lm x (L19 Γ x) s).1 a = none := if_pos c0
      rw [e1, e2]
      unfold lwM
      rw [if_neg (by omega), if_neg (by omega), if_neg (by omega)]
    · obtain ⟨i, rfl⟩ : ∃ i, a = x + i := ⟨a - x, by omega⟩
      rw [lm_at, lm_at]
      by_cases c1 : i < 19
      · rw [List.append_assoc, List.getElem?_append_left (show i < (L19 Γ x).length from c1)]
        cases e : (L19 Γ x)[i]? with
        | some v => rfl
        | none =>
          rw [List.getElem?_eq_none_iff] at e
          have : (L19 Γ x).length = 19 := rfl
          omega
      · rw [List.getElem?_eq_none (show (L19 Γ x).length ≤ i by show 19 ≤ i; omega), List.append_assoc, List.getElem?_append_right (show (L19 Γ x).length ≤ i by show 19 ≤ i; omega)]
        show (match (L14 Γ (x + 19) ++ [outE Γ fun _ => 0])[i - 19]? with | some e => some e | none => none) = lwM Γ x g00 (fun _ => 0) (x + i)
        obtain ⟨j, rfl⟩ : ∃ j, i = 19 + j := ⟨i - 19, by omega⟩
        rw [show 19 + j - 19 = j by omega]
        unfold lwM
        by_cases c2 : j < 15
        · obtain rfl | rfl | rfl | rfl | rfl | rfl | rfl | rfl | rfl | rfl | rfl | rfl | rfl | rfl | rfl : j = 0 ∨ j = 1 ∨ j = 2 ∨ j = 3 ∨ j = 4 ∨ j = 5 ∨ j = 6 ∨ j = 7 ∨ j = 8 ∨ j = 9 ∨ j = 10 ∨ j = 11 ∨ j = 12 ∨ j = 13 ∨ j = 14 := by omega
          · rw [if_pos (by omega)]; rfl
          · rw [if_neg (by omega), if_pos (by omega), show x + (19 + 1) - (x + 19) = 1 by omega]; rfl
          · rw [if_neg (by omega), if_pos (by omega), show x + (19 + 2) - (x + 19) = 2 by omega]; rfl
          · rw [if_neg (by omega), if_pos (by omega), show x + (19 + 3) - (x + 19) = 3 by omega]; rfl
          · rw [if_neg (by omega), if_pos (by omega), show x + (19 + 4) - (x + 19) = 4 by omega]; rfl
          · rw [if_neg (by omega), if_pos (by omega), show x + (19 + 5) - (x + 19) = 5 by omega]; rfl
          · rw [if_neg (by omega), if_pos (by omega), show x + (19 + 6) - (x + 19) = 6 by omega]; rfl
          · rw [if_neg (by omega), if_pos (by omega), show x + (19 + 7) - (x + 19) = 7 by omega]; rfl
          · rw [if_neg (by omega), if_pos (by omega), show x + (19 + 8) - (x + 19) = 8 by omega]; rfl
          · rw [if_neg (by omega), if_pos (by omega), show x + (19 + 9) - (x + 19) = 9 by omega]; rfl
          · rw [if_neg (by omega), if_pos (by omega), show x + (19 + 10) - (x + 19) = 10 by omega]; rfl
          · rw [if_neg (by omega), if_pos (by omega), show x + (19 + 11) - (x + 19) = 11 by omega]; rfl
          · rw [if_neg (by omega), if_pos (by omega), show x + (19 + 12) - (x + 19) = 12 by omega]; rfl
          · rw [if_neg (by omega), if_pos (by omega), show x + (19 + 13) - (x + 19) = 13 by omega]; rfl
          · rw [if_neg (by omega), if_neg (by omega), if_pos (by omega)]; rfl
        · rw [if_neg (by omega), if_neg (by omega), if_neg (by omega), List.getElem?_eq_none (show (L14 Γ (x + 19) ++ [outE Γ fun _ => 0]).length ≤ j by show 15 ≤ j; omega)]
  · show (x + (L19 Γ x ++ L14 Γ (x + 19) ++ [outE Γ fun _ => 0]).length, s + 1) = (x + 34, s + 1)
    rfl
