/-! ===== the law reads its script ===== -/
section NXS
variable {Γ : nx_G} {X : nx_X} {Y : nx_Y} {Z : nx_Z} {α β : Type} {C : α → nx_C} {pc q : Nat} {ls : List (Option Value)} {st : List Value} {M : nx_M} {o : Option α} {b L : Nat} {xs : Nat → Int32}
/-- the script lies below all that is made -/
def scK (Γ : nx_G) (X : nx_X) (b L : Nat) (xs : Nat → Int32) : Prop := b < Γ.1 ∧ va_X b L xs (nx_s X) Γ.2.1
theorem x_ald {i : Int32} {g : Int32 → Option α} (hx : scK Γ X b L xs) (d : decode Y.2.1 pc = .ok (.iaload, 1)) (hq : pc + 1 = q) (k : ∀ v, nx_J Γ X Y Z C (.inl (q, ls, .int v :: st, M)) (g v)) : nx_J Γ X Y Z C (.inl (pc, ls, .int i :: .ref b :: st, M)) ((nx_rd L xs i).bind g) := by
  subst hq
  intro z hz
  obtain ⟨hc, h⟩ := nx_opt hz
  refine nx_lift (fun K H locs L' n k hH hL w => ?_) (k _) z h
  obtain ⟨hb, cell, h1, h2, h3, h4, h5⟩ := hx
  have hlt : i.toNatClampNeg < L := Nat.not_le.mp fun q => hc (Or.inr q)
  have hcell : H[b]? = some cell := by rw [hH.2.2.2 _ hb]; exact h1
  exact W.iald K.1 K.2.1 hcell h2 h3 (fun hz => hz.elim (fun a => hc (Or.inl a)) (fun a => by omega)) (h5 _ hlt) rfl rfl d w
theorem x_len (hx : scK Γ X b L xs) (d : decode Y.2.1 pc = .ok (.arraylength, 1)) (hq : pc + 1 = q) (k : nx_J Γ X Y Z C (.inl (q, ls, .int (Int32.ofNat L) :: st, M)) o) : nx_J Γ X Y Z C (.inl (pc, ls, .ref b :: st, M)) o := by
  subst hq
  refine nx_lift (fun K H locs L' n k hH hL w => ?_) k
  obtain ⟨hb, cell, h1, h2, h3, h4, h5⟩ := hx
  have hcell : H[b]? = some cell := by rw [hH.2.2.2 _ hb]; exact h1
  subst h4
  exact W.alen K.1 K.2.1 hcell h2 rfl rfl rfl d w
end NXS
