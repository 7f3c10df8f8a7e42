/-! ===== a long is put into out ===== -/
section NXL
variable {Γ : nx_G} {X : nx_X} {Y : nx_Y} {Z : nx_Z} {α β : Type} {C : α → nx_C} {pc q : Nat} {ls : List (Option Value)} {st : List Value} {M : nx_M} {o : Option α}
theorem x_last {a n : Nat} {f : Nat → Int64} {i : Int32} {x : Int64} (hμ : M.1 a = some (.inl (Γ.2.2.2.1 1, n, .inr (.inl f)))) (hc : ¬ (i < 0 ∨ n ≤ i.toNatClampNeg)) (d : decode Y.2.1 pc = .ok (.lastore, 1)) (hq : pc + 1 = q) (k : nx_J Γ X Y Z C (.inl (q, ls, st, nx_put M a (.inl (Γ.2.2.2.1 1, n, .inr (.inl (vp_updL f i.toNatClampNeg x)))))) o) : nx_J Γ X Y Z C (.inl (pc, ls, .long x :: .int i :: .ref a :: st, M)) o := by
  subst hq
  refine nx_liftM (M := M) (M' := nx_put M a _) rfl (fun K H locs L n' k' hH hl hL w => ?_) k
  have hat : va_at Γ.2.2.1 vwCl (a, .inl (Γ.2.2.2.1 1, n, .inr (.inl f))) H := (hH.2.2.1 _ _ hμ).2
  have hK := K.2.2.2.2.2.2.2.2.1.1
  refine W.last K.1 K.2.1 hat ((hK.2 1 (Γ.2.2.2.1 1, .long) rfl).1 n (fun j => .long (f j))) (fun q => by cases q) (by show ¬ (i < 0 ∨ (arrV _ _ _).slots.size ≤ _); rw [arrV_size]; exact hc) rfl rfl d fun H1 e z1 oq => ?_
  refine w H1 _ (hH.put hμ ?_ z1 oq) (nx_locs hl (hH.2.2.1 _ _ hμ).1)
  show H1[a]? = some (vp_cell _ _)
  rw [e, vp_cell_l, vp_cell_l, arrV_store]
  congr 2
  funext q
  by_cases hq : q = i.toNatClampNeg
  · subst hq
    simp [updV, vp_updL]
  · simp [updV, vp_updL, hq]
end NXL
