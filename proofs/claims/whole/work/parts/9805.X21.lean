/-! ===== the start: class and Model side by side ===== -/
def g00 : mS := (fun _ _ => 0, 0)
def mDf : List Value := [.int 0, .null, .int 0, .int 0, .int 0, .null, .null, .int 0, .null, .int 0, .null, .null, .int 0, .null, .null, .int 0, .int 0, .null, .null, .int 0, .long 0, .null, .int 0, .int 0, .null, .null, .int 0]
def L14 (Γ : nx_G) (m : Nat) : List va_E := [.inr (8, mfl m g00), rowE Γ 240 (fun _ => 0), rowE Γ 3 (fun _ => 0), rowE Γ 6 (fun _ => 0), rowE Γ 3 (fun _ => 0), rowE Γ 320 (fun _ => 0), rowE Γ 5 (fun _ => 0), rowE Γ 820 (fun _ => 0), rowE Γ 4 (fun _ => 0), rowE Γ 37 (fun _ => 0), rowE Γ 32800 (fun _ => 0), rowE Γ 20448 (fun _ => 0), rowE Γ 8 (fun _ => 0), rowE Γ 820 (fun _ => 0)]
section INJ
variable {x s u : Nat} {Γ : nx_G} {L : List va_E}
/-- a row made, put into the last object -/
theorem lm_row {ci k : Nat} {fs : List Value} {M : List va_E} {e : va_E} {n : Nat} (hk : k < fs.length) : gPut (nx_al (lm x (L ++ .inr (ci, fs) :: M) s) e n) (x + L.length) ci k (.ref (lm x (L ++ .inr (ci, fs) :: M) s).2.1) = some (lm x (L ++ .inr (ci, fs.set k (.ref (x + L.length + (M.length + 1)))) :: (M ++ [e])) (s + n)) := by
  rw [lm_al, List.append_assoc, List.cons_append, lm_lst hk]
  have e : (lm x (L ++ .inr (ci, fs) :: M) s).2.1 = x + L.length + (M.length + 1) := by
    show x + (L ++ .inr (ci, fs) :: M).length = _
    rw [List.length_append, List.length_cons]
    omega
  rw [e]
theorem M_init : fM_init u Γ (lm x (L ++ [.inr (8, mDf)]) s) (x + L.length) = some (lm x (L ++ L14 Γ (x + L.length)) (s + (240 + 3 + 6 + 3 + 320 + 5 + 820 + 4 + 37 + 32800 + 20448 + 8 + 820))) := by
  unfold fM_init
  rw [Option.bind_some, lm_row (by simp [mDf]), Option.bind_some]
  rw [Option.bind_some, lm_row (by simp [mDf]), Option.bind_some]
  rw [Option.bind_some, lm_row (by simp [mDf]), Option.bind_some]
  rw [Option.bind_some, lm_row (by simp [mDf]), Option.bind_some]
  rw [Option.bind_some, lm_row (by simp [mDf]), Option.bind_some]
  rw [Option.bind_some, lm_row (by simp [mDf]), Option.bind_some]
  rw [Option.bind_some, lm_row (by simp [mDf]), Option.bind_some]
  rw [Option.bind_some, lm_row (by simp [mDf]), Option.bind_some]
  rw [Option.bind_some, lm_row (by simp [mDf]), Option.bind_some]
  rw [Option.bind_some, lm_row (by simp [mDf]), Option.bind_some]
  rw [Option.bind_some, lm_row (by simp [mDf]), Option.bind_some]
  rw [Option.bind_some, lm_row (by simp [mDf]), Option.bind_some]
  rw [Option.bind_some, lm_row (by simp [mDf]), Option.bind_some]
  have e : ∀ {L L' : List va_E} {s s' : Nat}, L = L' → s = s' → some (lm x L s) = some (lm x L' s') := fun h k => by rw [h, k]
  refine e ?_ (by omega)
  refine congrArg (fun z => L ++ z) ?_
  unfold L14 mfl mDf g00
  simp only [List.set_cons_zero, List.set_cons_succ, List.length_cons, List.length_nil, List.cons_append, List.nil_append, rowE, Nat.zero_add]
end INJ
theorem z0 : (0 : Int32) = nI 0 := by decide +kernel
theorem cnt_0 (n : Nat) : cnt (fun _ => false) n = 0 := by
  induction n with
  | zero => rfl
  | succ n ih =>
    show cnt (fun _ => false) n + (if false = true then 1 else 0) = 0
    rw [ih]
    rfl
/-- what holds at the start -/
theorem INV_0 (Γ : nx_G) (x s s' : Nat) : INV Γ x (x + 34) s' ((lm x (L19 Γ x) s).1, x + 34, s') g00 := by
  have hW : ∀ a, isWA x (c00 x) a → a = x + 9 ∨ a = x + 13 := fun a ha => by
    rcases ha with h | h | ⟨i, _, h⟩ | ⟨i, _, h⟩
    · exact Or.inl h
    · exact Or.inr h
    · cases h
    · cases h
  have hS : ∀ a, isSA (c00 x) a → a = x + 7 := fun a ha => by
    rcases ha with h | ⟨i, _, h⟩
    · exact h
    · cases h
  have nW0 : nW (c00 x) = 0 := by
    show cnt (fun _ => false) 40 + cnt (fun _ => false) 13 = 0
    rw [cnt_0, cnt_0]
  have nS0 : nS (c00 x) = 0 := by
    show ((0 : Int32)).toInt.toNat = 0
    decide +kernel
  refine ⟨c00 x, ⟨⟨fun j hj => ?_, fun a ha => ?_, fun a ha => ?_, fun a ha => ?_, Nat.le_refl _⟩, ⟨fun t i a _ h => (by cases h), fun t i s j a _ _ h => (by cases h), fun i a _ h => (by cases h), fun i j a _ _ h => (by cases h), ?_, ?_, ?_⟩⟩, ⟨⟨0, by omega, z0, z0, rfl, fun i => ?_⟩, ⟨0, by omega, z0, z0, fun k hk => by omega⟩, rfl, z0⟩, Or.inl ⟨?_, z0, z0, z0, z0, z0, ⟨0, by omega, z0⟩, z0, z0⟩⟩
  · show (lm x (L19 Γ x) s).1 (x + j) = _
    rw [lm_at]
    rcases fxJ_c hj with rfl | rfl | rfl | rfl | rfl | rfl | rfl | rfl | rfl | rfl | rfl | rfl | rfl <;> rfl
  · rcases hW a ha with rfl | rfl
    · exact ⟨(lm_at (i := 9) (s := s)).trans rfl, (lm_at (i := 10) (s := s)).trans rfl⟩
    · exact ⟨(lm_at (i := 13) (s := s)).trans rfl, (lm_at (i := 14) (s := s)).trans rfl⟩
  · rw [hS a ha]
    exact ⟨(lm_at (i := 7) (s := s)).trans rfl, (lm_at (i := 8) (s := s)).trans rfl⟩
  · left
    have ha : (lm x (L19 Γ x) s).1 a ≠ none := ha
    by_cases c : a < x
    · exact absurd (show (lm x (L19 Γ x) s).1 a = none from if_pos c) ha
    · by_cases d : a < x + 19
      · omega
      · have e : (lm x (L19 Γ x) s).1 a = (L19 Γ x)[a - x]? := if_neg c
        rw [e, List.getElem?_eq_none (show (L19 Γ x).length ≤ a - x by show 19 ≤ a - x; omega)] at ha
        exact absurd rfl ha
  · show x + 6 < x + 7
    omega
  · rw [nW0, nS0]
    show x + 34 ≤ _
    omega
  · rw [nW0, nS0]
    show s' ≤ _
    omega
  · show (0 : Int32) ≠ iz (-1)
    decide +kernel
  · funext i
    exact z0
