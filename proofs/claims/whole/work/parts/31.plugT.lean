/-! what is read as texts: tape at t, its bytes at t+1, the store's text at t+2 with rows t+3, t+4, a script at p with its row at p+1; int fields are row 0 -/
abbrev pS : Type := Nat → Nat → Int32
def tlen : Nat → Nat
  | 1 => 240
  | 2 => 3
  | 3 => 6
  | _ => 64
def tA (t p : Nat) : Nat → Nat
  | 1 => t + 1
  | 2 => t + 3
  | 3 => t + 4
  | _ => p + 1
def tW (Γ : nx_G) (M0 : nx_M) (t p : Nat) (g : pS) : nx_M := (fun a =>
  if a = t then some (.inr (5, [.ref (t + 1), .int (g 0 0), .int (g 0 1), .int (g 0 2)]))
  else if a = t + 1 then some (.inl (Γ.2.2.2.1 0, 240, .inl (g 1)))
  else if a = t + 2 then some (.inr (4, [.ref (t + 3), .ref (t + 4), .int (g 0 3), .int (g 0 4)]))
  else if a = t + 3 then some (.inl (Γ.2.2.2.1 0, 3, .inl (g 2)))
  else if a = t + 4 then some (.inl (Γ.2.2.2.1 0, 6, .inl (g 3)))
  else if a = p then some (.inr (3, [.ref (p + 1), .int (g 0 5)]))
  else if a = p + 1 then some (.inl (Γ.2.2.2.1 0, 64, .inl (g 4)))
  else M0.1 a, M0.2)
def tRow (g : pS) (j : Nat) (f : Nat → Int32) : pS := fun a => if a = j then f else g a
def tFs (g : pS) (k : Nat) (v : Int32) : pS := tRow g 0 (upd (g 0) k v)
def tWr (g : pS) (j : Nat) (i x : Int32) : Option pS := (nx_wr (tlen j) (g j) i x).bind fun f => some (tRow g j f)
section NXT2
variable {Γ : nx_G} {M0 : nx_M} {t p : Nat} {g : pS}
theorem tW_t : (tW Γ M0 t p g).1 t = some (.inr (5, [.ref (t + 1), .int (g 0 0), .int (g 0 1), .int (g 0 2)])) := by simp [tW]
theorem tW_s : (tW Γ M0 t p g).1 (t + 2) = some (.inr (4, [.ref (t + 3), .ref (t + 4), .int (g 0 3), .int (g 0 4)])) := by
  unfold tW
  dsimp only
  rw [if_neg (by omega), if_neg (by omega), if_pos rfl]
theorem tW_p (hp : t + 4 < p) : (tW Γ M0 t p g).1 p = some (.inr (3, [.ref (p + 1), .int (g 0 5)])) := by
  unfold tW
  dsimp only
  rw [if_neg (by omega), if_neg (by omega), if_neg (by omega), if_neg (by omega), if_neg (by omega), if_pos rfl]
theorem tW_r (hp : t + 4 < p) (j : Nat) (h : 1 ≤ j ∧ j ≤ 4) : (tW Γ M0 t p g).1 (tA t p j) = some (.inl (Γ.2.2.2.1 0, tlen j, .inl (g j))) := by
  rcases (by omega : j = 1 ∨ j = 2 ∨ j = 3 ∨ j = 4) with rfl | rfl | rfl | rfl
  · show (tW Γ M0 t p g).1 (t + 1) = _
    unfold tW
    dsimp only
    rw [if_neg (by omega), if_pos rfl]
    rfl
  · show (tW Γ M0 t p g).1 (t + 3) = _
    unfold tW
    dsimp only
    rw [if_neg (by omega), if_neg (by omega), if_neg (by omega), if_pos rfl]
    rfl
  · show (tW Γ M0 t p g).1 (t + 4) = _
    unfold tW
    dsimp only
    rw [if_neg (by omega), if_neg (by omega), if_neg (by omega), if_neg (by omega), if_pos rfl]
    rfl
  · show (tW Γ M0 t p g).1 (p + 1) = _
    unfold tW
    dsimp only
    rw [if_neg (by omega), if_neg (by omega), if_neg (by omega), if_neg (by omega), if_neg (by omega), if_neg (by omega), if_pos rfl]
    rfl
theorem tRow_0 {j : Nat} {f : Nat → Int32} (h : 1 ≤ j) : tRow g j f 0 = g 0 := by
  unfold tRow
  rw [if_neg (by omega)]
theorem tW_row (hp : t + 4 < p) {j : Nat} {f : Nat → Int32} (h : 1 ≤ j ∧ j ≤ 4) : nx_put (tW Γ M0 t p g) (tA t p j) (.inl (Γ.2.2.2.1 0, tlen j, .inl f)) = tW Γ M0 t p (tRow g j f) := by
  unfold nx_put tW
  congr 1
  funext a
  dsimp only
  rw [tRow_0 h.1]
  rcases (by omega : j = 1 ∨ j = 2 ∨ j = 3 ∨ j = 4) with rfl | rfl | rfl | rfl
  all_goals
    simp only [tA, tlen, tRow]
    repeat' split
    all_goals first | rfl | omega | simp_all
theorem tW_fld (hp : t + 4 < p) {k : Nat} {v : Int32} (a : Nat) (e : va_E) (h : (k ≤ 2 ∧ a = t ∧ e = .inr (5, [.ref (t + 1), .int (tFs g k v 0 0), .int (tFs g k v 0 1), .int (tFs g k v 0 2)])) ∨ ((k = 3 ∨ k = 4) ∧ a = t + 2 ∧ e = .inr (4, [.ref (t + 3), .ref (t + 4), .int (tFs g k v 0 3), .int (tFs g k v 0 4)])) ∨ (k = 5 ∧ a = p ∧ e = .inr (3, [.ref (p + 1), .int (tFs g k v 0 5)]))) : nx_put (tW Γ M0 t p g) a e = tW Γ M0 t p (tFs g k v) := by
  have h0 : ∀ i, i ≠ k → tFs g k v 0 i = g 0 i := by
    intro i hi
    simp [tFs, tRow, upd, hi]
  have h1 : ∀ j, 1 ≤ j → tFs g k v j = g j := by
    intro j hj
    unfold tFs tRow
    rw [if_neg (by omega)]
  unfold nx_put tW
  congr 1
  funext b
  dsimp only
  rw [h1 1 (by omega), h1 2 (by omega), h1 3 (by omega), h1 4 (by omega)]
  rcases h with ⟨hk, rfl, rfl⟩ | ⟨hk, rfl, rfl⟩ | ⟨rfl, rfl, rfl⟩
  · rw [h0 3 (by omega), h0 4 (by omega), h0 5 (by omega)]
    by_cases hb : b = a
    · rw [if_pos hb, if_pos hb]
    · rw [if_neg hb, if_neg hb, if_neg hb]
  · rw [h0 0 (by omega), h0 1 (by omega), h0 2 (by omega), h0 5 (by omega)]
    by_cases hb : b = t + 2
    · subst hb
      rw [if_pos rfl, if_neg (by omega), if_neg (by omega), if_pos rfl]
    · rw [if_neg hb]
      simp only [hb, if_false]
  · rw [h0 0 (by omega), h0 1 (by omega), h0 2 (by omega), h0 3 (by omega), h0 4 (by omega)]
    by_cases hb : b = a
    · subst hb
      rw [if_pos rfl, if_neg (by omega), if_neg (by omega), if_neg (by omega), if_neg (by omega), if_neg (by omega), if_pos rfl]
    · rw [if_neg hb]
      simp only [hb, if_false]
variable {X : nx_X} {Y : nx_Y} {Z : nx_Z} {α : Type} {C : α → nx_C} {pc q : Nat} {ls : List (Option Value)} {st : List Value}
theorem t_iald {i : Int32} {k : Int32 → Option α} (hp : t + 4 < p) (j : Nat) (h : 1 ≤ j ∧ j ≤ 4) (d : decode Y.2.1 pc = .ok (.iaload, 1)) (hq : pc + 1 = q) (kk : ∀ x, nx_J Γ X Y Z C (.inl (q, ls, .int x :: st, tW Γ M0 t p g)) (k x)) : nx_J Γ X Y Z C (.inl (pc, ls, .int i :: .ref (tA t p j) :: st, tW Γ M0 t p g)) ((nx_rd (tlen j) (g j) i).bind k) := nx_iald (tW_r hp j h) d hq kk
theorem t_iast {i x : Int32} {k : pS → Option α} (hp : t + 4 < p) (j : Nat) (h : 1 ≤ j ∧ j ≤ 4) (d : decode Y.2.1 pc = .ok (.iastore, 1)) (hq : pc + 1 = q) (kk : ∀ g', nx_J Γ X Y Z C (.inl (q, ls, st, tW Γ M0 t p g')) (k g')) : nx_J Γ X Y Z C (.inl (pc, ls, .int x :: .int i :: .ref (tA t p j) :: st, tW Γ M0 t p g)) ((tWr g j i x).bind k) := by
  unfold tWr
  rw [Option.bind_assoc]
  exact nx_iast (tW_r hp j h) d hq (fun f' => by rw [tW_row hp h]; exact kk _)
theorem t_alen {o : Option α} (hp : t + 4 < p) (j : Nat) (h : 1 ≤ j ∧ j ≤ 4) (d : decode Y.2.1 pc = .ok (.arraylength, 1)) (hq : pc + 1 = q) (kk : nx_J Γ X Y Z C (.inl (q, ls, .int (Int32.ofNat (tlen j)) :: st, tW Γ M0 t p g)) o) : nx_J Γ X Y Z C (.inl (pc, ls, .ref (tA t p j) :: st, tW Γ M0 t p g)) o := nx_alen (tW_r hp j h) d hq kk
/-- a field of one of the three -/
theorem t_put {a ci kf k idx : Nat} {v : Int32} {ty : FieldType} {fs : List Value} {kk : pS → Option α} (hF : nx_FL Y.1 idx ci kf ∨ nx_FN Y.1 idx ci kf) (hT : nx_FT ci kf false ty) (hμ : (tW Γ M0 t p g).1 a = some (.inr (ci, fs))) (hn : narrow ty (.int v) = .int v) (hfit : fits ty (.int v) = true) (hk : kf < fs.length) (hs : nx_put (tW Γ M0 t p g) a (.inr (ci, fs.set kf (.int v))) = tW Γ M0 t p (tFs g k v)) (d : decode Y.2.1 pc = .ok (.putfield idx, 3)) (hq : pc + 3 = q) (kx : ∀ g', nx_J Γ X Y Z C (.inl (q, ls, st, tW Γ M0 t p g')) (kk g')) : nx_J Γ X Y Z C (.inl (pc, ls, .int v :: .ref a :: st, tW Γ M0 t p g)) ((some (tFs g k v)).bind kk) := by
  rcases hF with hF | hF
  · refine nx_putf hF hT hμ hn hfit hk d hq ?_
    rw [hs]
    exact kx _
  · refine nx_putfN hF hT hμ hn hfit hk d hq ?_
    rw [hs]
    exact kx _
end NXT2
